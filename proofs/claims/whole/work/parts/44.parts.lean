/-! one article laid by both sides -/
theorem p_lay {m : Nat} {AR : List (List Nat)} {x : Nat} {ring : Int32} {σb τb : St} (hm : m ≤ 24) (hE : E m AR σb τb) (hlk : ∀ s, s < m → τb 24 s = σb 28 s ∧ (σb 28 s = -9 ∨ ∃ t, t < m ∧ σb 28 s = nI t)) (h5 : σb 5 3 = nI m) (hxm : x < m) (hx9 : σb 30 x = -9) (hring : ring = if σb 29 x = -9 then 0 else 1) : ∀ (d : Nat) (cur : List Nat) (at_ : Int32) (g g' : Nat) (σ τ : St), (at_ = -9 ∨ ∃ t, t < m ∧ at_ = nI t) → Fn m AR x ring cur at_ σb τb σ τ → AR.flatten.length + cur.length + d = m → d < g → d < g' → ∃ l σ' τ', f_X0_addFrom_L24 g (nI AR.length) at_ (nI cur.length) σ = some σ' ∧ f_X7_lays_L25 g' at_ τ = some τ' ∧ E m (AR ++ [l]) σ' τ' ∧ l.head? = some x ∧ (∀ c, c ≠ 6 → c ≠ 30 → c ≠ 31 → c ≠ 32 → c ≠ 33 → σ' c = σb c) ∧ (∀ c, c ≠ 26 → c ≠ 27 → c ≠ 28 → c ≠ 29 → c ≠ 0 → τ' c = τb c) ∧ (∀ j, j ≠ 33 → j ≠ 28 → τ' 0 j = τb 0 j) := by
  intro d
  induction d with
  | zero =>
    intro cur at_ g g' σ τ hat hF hd hg hg'
    obtain ⟨g, rfl⟩ : ∃ z, g = z + 1 := ⟨g - 1, by omega⟩
    obtain ⟨g', rfl⟩ : ∃ z, g' = z + 1 := ⟨g' - 1, by omega⟩
    have hne : cur ≠ [] := fun e => by
      have h1 := hF.2.2.2.2.2.2.2.2.2.2.2.2.2.2.2.2.1 e
      have h30 : σ 30 x = -9 := by rw [(hF.2.2.2.2.2.2.2.2.2.2.2.2.2.2.1 x hxm).2, e, if_neg (by simp)]; exact hx9
      rw [h1] at hF
      obtain ⟨hnot, -⟩ := lay_step hm hE (fun s hs => (hlk s hs).1) hF hxm hxm h30
      have := nodup_len m (x :: (AR.flatten ++ cur)) (List.nodup_cons.mpr ⟨hnot, hF.2.2.2.2.2.2.2.2.2.2.2.2.1⟩) (fun s hs => by
        rcases List.mem_cons.mp hs with h | h
        · rw [h]; exact hxm
        · rcases List.mem_append.mp h with h | h
          · exact hE.2.1 s h
          · exact hF.2.2.2.2.2.2.2.2.2.2.2.2.2.1 s h)
      simp only [List.length_cons, List.length_append] at this
      omega
    obtain ⟨σ', τ', g1, g2, g3, g4, g5, g6⟩ := lay_end hm hE hring hF hne
    obtain ⟨t, ht⟩ := hF.2.2.2.2.2.2.2.2.2.2.2.2.2.2.2.2.2.2 hne
    have c5 : σ 5 3 = nI m := by rw [hF.1 5 (by decide) (by decide) (by decide) (by decide)]; exact h5
    refine ⟨cur, σ', τ', ?_, ?_, g3, by rw [ht]; rfl, g4, g5, g6⟩
    · rw [f_X0_addFrom_L24, lf_ok, c5]
      by_cases q : nI m ≤ nI cur.length
      · rw [if_pos q]; exact g1
      · rw [if_neg q]
        rcases hat with e | ⟨y, hy, e⟩
        · rw [if_pos e]; exact g1
        · subst e
          rw [if_neg (nI_ne9 (by omega)), ld24 (by omega)]
          by_cases q2 : σ 30 y = -9
          · obtain ⟨hnot, -⟩ := lay_step hm hE (fun s hs => (hlk s hs).1) hF hy hxm q2
            have := nodup_len m (y :: (AR.flatten ++ cur)) (List.nodup_cons.mpr ⟨hnot, hF.2.2.2.2.2.2.2.2.2.2.2.2.1⟩) (fun s hs => by
              rcases List.mem_cons.mp hs with h | h
              · rw [h]; exact hy
              · rcases List.mem_append.mp h with h | h
                · exact hE.2.1 s h
                · exact hF.2.2.2.2.2.2.2.2.2.2.2.2.2.1 s h)
            simp only [List.length_cons, List.length_append] at this
            omega
          · rw [if_neg q2]; exact g1
    · rw [f_X7_lays_L25]
      rcases hat with e | ⟨y, hy, e⟩
      · rw [if_pos e]; exact g2
      · subst e
        rw [if_neg (nI_ne9 (by omega)), ld24 (by omega), (hF.2.2.2.2.2.2.2.2.2.2.2.2.2.2.1 y hy).1]
        by_cases q2 : σ 30 y = -9
        · obtain ⟨hnot, -⟩ := lay_step hm hE (fun s hs => (hlk s hs).1) hF hy hxm q2
          have := nodup_len m (y :: (AR.flatten ++ cur)) (List.nodup_cons.mpr ⟨hnot, hF.2.2.2.2.2.2.2.2.2.2.2.2.1⟩) (fun s hs => by
            rcases List.mem_cons.mp hs with h | h
            · rw [h]; exact hy
            · rcases List.mem_append.mp h with h | h
              · exact hE.2.1 s h
              · exact hF.2.2.2.2.2.2.2.2.2.2.2.2.2.1 s h)
          simp only [List.length_cons, List.length_append] at this
          omega
        · rw [if_neg q2]; exact g2
  | succ d ih =>
    intro cur at_ g g' σ τ hat hF hd hg hg'
    obtain ⟨g, rfl⟩ : ∃ z, g = z + 1 := ⟨g - 1, by omega⟩
    obtain ⟨g', rfl⟩ : ∃ z, g' = z + 1 := ⟨g' - 1, by omega⟩
    have c5 : σ 5 3 = nI m := by rw [hF.1 5 (by decide) (by decide) (by decide) (by decide)]; exact h5
    have endd : cur ≠ [] → ∃ σ' τ', f_X0_addFrom_B93 σ = some σ' ∧ f_X7_lays_B82 τ = some τ' ∧ E m (AR ++ [cur]) σ' τ' ∧ cur.head? = some x ∧ (∀ c, c ≠ 6 → c ≠ 30 → c ≠ 31 → c ≠ 32 → c ≠ 33 → σ' c = σb c) ∧ (∀ c, c ≠ 26 → c ≠ 27 → c ≠ 28 → c ≠ 29 → c ≠ 0 → τ' c = τb c) ∧ (∀ j, j ≠ 33 → j ≠ 28 → τ' 0 j = τb 0 j) := fun hne => by
      obtain ⟨σ', τ', g1, g2, g3, g4, g5, g6⟩ := lay_end hm hE hring hF hne
      obtain ⟨t, ht⟩ := hF.2.2.2.2.2.2.2.2.2.2.2.2.2.2.2.2.2.2 hne
      exact ⟨σ', τ', g1, g2, g3, by rw [ht]; rfl, g4, g5, g6⟩
    rw [f_X0_addFrom_L24, f_X7_lays_L25, lf_ok, c5, if_neg (nle_of (show cur.length < m by omega) (by omega))]
    rcases hat with e | ⟨y, hy, e⟩
    · have hne : cur ≠ [] := fun z => by
        have h1 := hF.2.2.2.2.2.2.2.2.2.2.2.2.2.2.2.2.1 z
        exact nI_ne9 (by omega) (h1.symm.trans e)
      rw [if_pos e, if_pos e]
      obtain ⟨σ', τ', g1, g2, g3, g4⟩ := endd hne
      exact ⟨cur, σ', τ', g1, g2, g3, g4⟩
    · subst e
      rw [if_neg (nI_ne9 (by omega)), if_neg (nI_ne9 (by omega)), ld24 (by omega), ld24 (by omega), (hF.2.2.2.2.2.2.2.2.2.2.2.2.2.2.1 y hy).1]
      by_cases q2 : σ 30 y = -9
      · rw [if_pos q2, if_pos q2]
        obtain ⟨hnot, σ', τ', s1, s2, s3⟩ := lay_step hm hE (fun s hs => (hlk s hs).1) hF hy hxm q2
        rw [s1, s2, nI_1]
        have := ih (cur ++ [y]) (σb 28 y) g g' σ' τ' (hlk y hy).2 s3 (by rw [List.length_append]; simp only [List.length_cons, List.length_nil]; omega) (by omega) (by omega)
        rw [List.length_append] at this
        exact this
      · have hne : cur ≠ [] := fun z => by
          have h1 := hF.2.2.2.2.2.2.2.2.2.2.2.2.2.2.2.2.1 z
          have : y = x := (nI_eq (by omega) (by omega)).mp h1
          subst this
          rw [(hF.2.2.2.2.2.2.2.2.2.2.2.2.2.2.1 y hy).2, z, if_neg (by simp)] at q2
          exact q2 hx9
        rw [if_neg q2, if_neg q2]
        obtain ⟨σ', τ', g1, g2, g3, g4⟩ := endd hne
        exact ⟨cur, σ', τ', g1, g2, g3, g4⟩
theorem p_add {m : Nat} {AR : List (List Nat)} {x : Nat} {ring : Int32} {σb τb : St} (hm : m ≤ 24) (hE : E m AR σb τb) (hlk : ∀ s, s < m → τb 24 s = σb 28 s ∧ (σb 28 s = -9 ∨ ∃ t, t < m ∧ σb 28 s = nI t)) (h5 : σb 5 3 = nI m) (hxm : x < m) (hx9 : σb 30 x = -9) (hring : ring = if σb 29 x = -9 then 0 else 1) : ∃ l σ' τ', f_X0_addFrom (nI x) σb = some σ' ∧ f_X7_lays (nI x) ring τb = some τ' ∧ E m (AR ++ [l]) σ' τ' ∧ l.head? = some x ∧ (∀ c, c ≠ 6 → c ≠ 30 → c ≠ 31 → c ≠ 32 → c ≠ 33 → σ' c = σb c) ∧ (∀ c, c ≠ 26 → c ≠ 27 → c ≠ 28 → c ≠ 29 → c ≠ 0 → τ' c = τb c) ∧ (∀ j, j ≠ 33 → j ≠ 28 → τ' 0 j = τb 0 j) := by
  have har := E_ar hE
  have hlen := E_len hE
  have hxf : x ∉ AR.flatten := fun h => by
    obtain ⟨l, hl, hyl⟩ := List.mem_flatten.mp h
    obtain ⟨r, hr⟩ := List.getElem?_of_mem hl
    rw [(hE.2.2.2.2.2.2.2 r l hr).2.2.2.2.2 x hyl] at hx9
    have := (List.getElem?_eq_some_iff.mp hr).1
    exact nI_ne9 (by omega) hx9
  have hl1 := nodup_len m (x :: AR.flatten) (List.nodup_cons.mpr ⟨hxf, hE.1⟩) (fun s hs => by
    rcases List.mem_cons.mp hs with h | h
    · rw [h]; exact hxm
    · exact hE.2.1 s h)
  rw [List.length_cons] at hl1
  have ha24 : AR.length < 24 := by omega
  have hgb : ∀ {α : Type} (k : Option α), gb ring k = k := fun k => by
    rw [hring]
    by_cases q : σb 29 x = -9
    · rw [if_pos q, gb0]
    · rw [if_neg q, gb1]
  unfold f_X0_addFrom f_X7_lays
  simp only [lf_ok, hE.2.2.1, hE.2.2.2.1, hE.2.2.2.2.1, sd24 ha24, sd25 (show AR.length < 25 by omega), ss_c _ (show 0 ≠ 26 by decide), hgb]
  have F0 : Fn m AR x ring [] (nI x) σb τb (ss (ss σb 31 AR.length (nI x)) 33 AR.length 0) (ss (ss τb 26 AR.length (nI AR.flatten.length)) 27 AR.length ring) := by
    refine ⟨?_, ?_, ?_, ?_, ?_, ?_, ?_, ?_, ?_, ?_, ?_, rep_nil _ _, ?_, ?_, ?_, ?_, fun _ => rfl, ?_, fun h => absurd rfl h⟩
    · intro c c1 c2 c3 c4
      rw [ss_c _ c4, ss_c _ c2]
    · intro c c1 c2 c3 c4 c5
      rw [ss_c _ c2, ss_c _ c1]
    · intro j hj
      rw [ss_c _ (by decide), ss_c _ (by decide)]
    · intro q hq
      rw [ss_c _ (show 31 ≠ 33 by decide), ss_ne _ _ _ _ _ hq, ss_c _ (show 32 ≠ 33 by decide), ss_c _ (show 32 ≠ 31 by decide), ss_ne _ _ _ _ _ hq, ss_c _ (show 33 ≠ 31 by decide), ss_c _ (show 26 ≠ 27 by decide), ss_ne _ _ _ _ _ hq, ss_ne _ _ _ _ _ hq, ss_c _ (show 27 ≠ 26 by decide)]
      exact ⟨rfl, rfl, rfl, rfl, rfl⟩
    · intro q hq
      rw [ss_c _ (by decide), ss_c _ (by decide)]
    · rw [ss_c _ (by decide), ss_same]
    · rw [ss_same]; rfl
    · intro y hy; simp at hy
    · rw [ss_c _ (by decide), ss_same]
    · rw [ss_same]
    · rw [ss_c _ (by decide), ss_c _ (by decide)]; exact hE.2.2.2.2.1
    · rw [List.append_nil]; exact hE.1
    · intro s hs; simp at hs
    · intro s hs
      rw [ss_c _ (show 29 ≠ 27 by decide), ss_c _ (show 29 ≠ 26 by decide), ss_c _ (show 30 ≠ 33 by decide), ss_c _ (show 30 ≠ 31 by decide), if_neg (by simp)]
      exact ⟨(hE.2.2.2.2.2.1 s hs).1, rfl⟩
    · intro i a c ha; simp at ha
    · intro y hy; simp at hy
  have := p_lay hm hE hlk h5 hxm hx9 hring (m - AR.flatten.length) [] (nI x) 64 64 _ _ (Or.inr ⟨x, hxm, rfl⟩) F0 (by rw [List.length_nil]; omega) (by omega) (by omega)
  exact this
/-! all articles: first those that begin, then the rings -/
def G (n m : Nat) (σc τc : St) (AR : List (List Nat)) (σ τ : St) : Prop := E m AR σ τ ∧ (∀ c, c ≠ 6 → c ≠ 30 → c ≠ 31 → c ≠ 32 → c ≠ 33 → σ c = σc c) ∧ (∀ c, c ≠ 26 → c ≠ 27 → c ≠ 28 → c ≠ 29 → c ≠ 0 → τ c = τc c) ∧ (∀ j, j ≠ 33 → j ≠ 28 → τ 0 j = τc 0 j)
/-- what the links give: where they lead, and that what is led to has one that leads there -/
def Ln (m : Nat) (σc τc : St) : Prop := σc 5 3 = nI m ∧ τc 0 21 = nI m ∧ ∀ s, s < m → τc 24 s = σc 28 s ∧ τc 25 s = σc 29 s ∧ (σc 28 s = -9 ∨ ∃ t, t < m ∧ σc 28 s = nI t ∧ σc 29 t ≠ -9)
theorem G_add {n m : Nat} {σc τc σ τ : St} {AR : List (List Nat)} (hm : m ≤ 24) (hLn : Ln m σc τc) (hG : G n m σc τc AR σ τ) {x : Nat} (hx : x < m) (hx9 : σ 30 x = -9) {ring : Int32} (hring : ring = if σc 29 x = -9 then 0 else 1) : ∃ l σ' τ', f_X0_addFrom (nI x) σ = some σ' ∧ f_X7_lays (nI x) ring τ = some τ' ∧ G n m σc τc (AR ++ [l]) σ' τ' ∧ l.head? = some x := by
  obtain ⟨hE, g1, g2, g3⟩ := hG
  obtain ⟨l, σ', τ', a1, a2, a3, a4, a5, a6, a7⟩ := p_add hm hE (fun s hs => by
    rw [g2 24 (by decide) (by decide) (by decide) (by decide) (by decide), g1 28 (by decide) (by decide) (by decide) (by decide) (by decide)]
    exact ⟨(hLn.2.2 s hs).1, (hLn.2.2 s hs).2.2.imp id (fun ⟨t, t1, t2, _⟩ => ⟨t, t1, t2⟩)⟩) (by rw [g1 5 (by decide) (by decide) (by decide) (by decide) (by decide)]; exact hLn.1) hx hx9 (ring := ring) (by rw [g1 29 (by decide) (by decide) (by decide) (by decide) (by decide)]; exact hring)
  exact ⟨l, σ', τ', a1, a2, ⟨a3, fun c c1 c2 c3 c4 c5 => by rw [a5 c c1 c2 c3 c4 c5]; exact g1 c c1 c2 c3 c4 c5, fun c c1 c2 c3 c4 c5 => by rw [a6 c c1 c2 c3 c4 c5]; exact g2 c c1 c2 c3 c4 c5, fun j j1 j2 => by rw [a7 j j1 j2]; exact g3 j j1 j2⟩, a4⟩
theorem E_un {m : Nat} {AR : List (List Nat)} {σ τ : St} (hm : m ≤ 24) (hE : E m AR σ τ) {s : Nat} (hs : s < m) : σ 30 s = -9 ↔ s ∉ AR.flatten := by
  constructor
  · intro h hm2
    obtain ⟨l, hl, hyl⟩ := List.mem_flatten.mp hm2
    obtain ⟨r, hr⟩ := List.getElem?_of_mem hl
    rw [(hE.2.2.2.2.2.2.2 r l hr).2.2.2.2.2 s hyl] at h
    have h1 := (List.getElem?_eq_some_iff.mp hr).1
    have h2 := E_ar hE
    have h3 := E_len hE
    exact nI_ne9 (by omega) h
  · exact (hE.2.2.2.2.2.1 s hs).2
theorem p_p1 {n m : Nat} {σc τc : St} (hm : m ≤ 24) (hLn : Ln m σc τc) : ∀ (d k g : Nat) (AR : List (List Nat)) (σ τ : St), k + d = m → d < g → G n m σc τc AR σ τ → (∀ y ∈ AR.flatten, σc 29 y = -9 → y < k) → (∀ s, s < k → σc 29 s = -9 → s ∈ AR.flatten) → ∃ AR1 σ1 τ1, f_X0_build_L85 g (nI k) σ = f_X0_build_L120 64 0 σ1 ∧ f_X7_findArticles_L160 g (nI k) τ = f_X7_findArticles_L193 64 0 τ1 ∧ G n m σc τc AR1 σ1 τ1 ∧ (∀ s, s < m → σc 29 s = -9 → s ∈ AR1.flatten) := by
  intro d
  induction d with
  | zero =>
    intro k g AR σ τ hk hg hG h1 h2
    obtain ⟨g, rfl⟩ : ∃ z, g = z + 1 := ⟨g - 1, by omega⟩
    have c5 : σ 5 3 = nI m := by rw [hG.2.1 5 (by decide) (by decide) (by decide) (by decide) (by decide)]; exact hLn.1
    have c5' : τ 0 21 = nI m := by rw [hG.2.2.2 21 (by decide) (by decide)]; exact hLn.2.1
    refine ⟨AR, σ, τ, ?_, ?_, hG, fun s hs => h2 s (by omega)⟩
    · rw [f_X0_build_L85, lf_ok, c5, if_pos (nI_le (by omega) (by omega))]
    · rw [f_X7_findArticles_L160, lf_ok, c5', if_pos (nI_le (by omega) (by omega))]
  | succ d ih =>
    intro k g AR σ τ hk hg hG h1 h2
    obtain ⟨g, rfl⟩ : ∃ z, g = z + 1 := ⟨g - 1, by omega⟩
    have hk1 : k < m := by omega
    have c5 : σ 5 3 = nI m := by rw [hG.2.1 5 (by decide) (by decide) (by decide) (by decide) (by decide)]; exact hLn.1
    have c5' : τ 0 21 = nI m := by rw [hG.2.2.2 21 (by decide) (by decide)]; exact hLn.2.1
    have e29 : σ 29 k = σc 29 k := by rw [hG.2.1 29 (by decide) (by decide) (by decide) (by decide) (by decide)]
    have e25 : τ 25 k = σc 29 k := by rw [hG.2.2.1 25 (by decide) (by decide) (by decide) (by decide) (by decide)]; exact (hLn.2.2 k hk1).2.1
    rw [f_X0_build_L85, f_X7_findArticles_L160, lf_ok, lf_ok, c5, c5', if_neg (nle_of hk1 (by omega)), if_neg (nle_of hk1 (by omega)), ld24 (by omega), ld24 (by omega), e29, e25]
    by_cases q : σc 29 k = -9
    · rw [if_pos q, if_pos q]
      have hk9 : σ 30 k = -9 := (E_un hm hG.1 hk1).mpr (fun h => absurd (h1 k h q) (by omega))
      obtain ⟨l, σ', τ', a1, a2, a3, a4⟩ := G_add (n := n) hm hLn hG hk1 hk9 (ring := 0) (by rw [if_pos q])
      rw [a1, a2, bs_ok, bs_ok, nI_1]
      have hfl : (AR ++ [l]).flatten = AR.flatten ++ l := by simp
      refine ih (k + 1) g (AR ++ [l]) σ' τ' (by omega) (by omega) a3 (fun y hy y9 => ?_) (fun s hs s9 => ?_)
      · rw [hfl] at hy
        rcases List.mem_append.mp hy with h | h
        · have := h1 y h y9; omega
        · obtain ⟨i, hi⟩ := List.getElem?_of_mem h
          cases i with
          | zero =>
            rw [← List.head?_eq_getElem?, a4] at hi
            rw [← Option.some.inj hi]; omega
          | succ i =>
            have hr : (AR ++ [l])[AR.length]? = some l := by rw [List.getElem?_append_right (Nat.le_refl _), Nat.sub_self]; rfl
            have hch := (a3.1.2.2.2.2.2.2.2 AR.length l hr).2.2.2.2.1
            have hli : i < l.length := by have := (List.getElem?_eq_some_iff.mp hi).1; omega
            have hv := hch i _ y (List.getElem?_eq_getElem hli) hi
            rw [a3.2.1 28 (by decide) (by decide) (by decide) (by decide) (by decide)] at hv
            have hlm : l[i] < m := a3.1.2.1 _ (by rw [hfl]; exact List.mem_append_right _ (List.getElem_mem hli))
            rcases (hLn.2.2 _ hlm).2.2 with z | ⟨t, t1, t2, t3⟩
            · exact absurd (hv.symm.trans z) (nI_ne9 (by have := a3.1.2.1 y (by rw [hfl]; exact List.mem_append_right _ h); omega))
            · have hym : y < m := a3.1.2.1 y (by rw [hfl]; exact List.mem_append_right _ h)
              have : y = t := (nI_eq (by omega) (by omega)).mp (hv.symm.trans t2)
              subst this
              exact absurd y9 t3
      · rw [hfl]
        rcases Nat.eq_or_lt_of_le (Nat.le_of_lt_succ hs) with e | e
        · refine List.mem_append_right _ ?_
          rw [e]
          exact List.mem_of_mem_head? a4
        · exact List.mem_append_left _ (h2 s e s9)
    · rw [if_neg q, if_neg q, nI_1]
      exact ih (k + 1) g AR σ τ (by omega) (by omega) hG (fun y hy y9 => by have := h1 y hy y9; omega) (fun s hs s9 => h2 s (by
        rcases Nat.eq_or_lt_of_le (Nat.le_of_lt_succ hs) with e | e
        · subst e; exact absurd s9 q
        · exact e) s9)
theorem p_p2 {n m : Nat} {σc τc : St} (hm : m ≤ 24) (hLn : Ln m σc τc) : ∀ (d k g : Nat) (AR : List (List Nat)) (σ τ : St), k + d = m → d < g → G n m σc τc AR σ τ → (∀ s, s < m → σc 29 s = -9 → s ∈ AR.flatten) → (∀ s, s < k → s ∈ AR.flatten) → ∃ AR1 σ1 τ1, f_X0_build_L120 g (nI k) σ = some σ1 ∧ f_X7_findArticles_L193 g (nI k) τ = some τ1 ∧ G n m σc τc AR1 σ1 τ1 ∧ (∀ s, s < m → s ∈ AR1.flatten) := by
  intro d
  induction d with
  | zero =>
    intro k g AR σ τ hk hg hG h1 h2
    obtain ⟨g, rfl⟩ : ∃ z, g = z + 1 := ⟨g - 1, by omega⟩
    have c5 : σ 5 3 = nI m := by rw [hG.2.1 5 (by decide) (by decide) (by decide) (by decide) (by decide)]; exact hLn.1
    have c5' : τ 0 21 = nI m := by rw [hG.2.2.2 21 (by decide) (by decide)]; exact hLn.2.1
    refine ⟨AR, σ, τ, ?_, ?_, hG, fun s hs => h2 s (by omega)⟩
    · rw [f_X0_build_L120, lf_ok, c5, if_pos (nI_le (by omega) (by omega))]
    · rw [f_X7_findArticles_L193, lf_ok, c5', if_pos (nI_le (by omega) (by omega))]
  | succ d ih =>
    intro k g AR σ τ hk hg hG h1 h2
    obtain ⟨g, rfl⟩ : ∃ z, g = z + 1 := ⟨g - 1, by omega⟩
    have hk1 : k < m := by omega
    have c5 : σ 5 3 = nI m := by rw [hG.2.1 5 (by decide) (by decide) (by decide) (by decide) (by decide)]; exact hLn.1
    have c5' : τ 0 21 = nI m := by rw [hG.2.2.2 21 (by decide) (by decide)]; exact hLn.2.1
    rw [f_X0_build_L120, f_X7_findArticles_L193, lf_ok, lf_ok, c5, c5', if_neg (nle_of hk1 (by omega)), if_neg (nle_of hk1 (by omega)), ld24 (by omega), ld24 (by omega), (hG.1.2.2.2.2.2.1 k hk1).1]
    by_cases q : σ 30 k = -9
    · rw [if_pos q, if_pos q]
      have hkf := (E_un hm hG.1 hk1).mp q
      have hp : ¬ σc 29 k = -9 := fun z => hkf (h1 k hk1 z)
      obtain ⟨l, σ', τ', a1, a2, a3, a4⟩ := G_add (n := n) hm hLn hG hk1 q (ring := 1) (by rw [if_neg hp])
      rw [a1, a2, bs_ok, bs_ok, nI_1]
      have hfl : (AR ++ [l]).flatten = AR.flatten ++ l := by simp
      refine ih (k + 1) g (AR ++ [l]) σ' τ' (by omega) (by omega) a3 (fun s hs s9 => by rw [hfl]; exact List.mem_append_left _ (h1 s hs s9)) (fun s hs => ?_)
      rw [hfl]
      rcases Nat.eq_or_lt_of_le (Nat.le_of_lt_succ hs) with e | e
      · refine List.mem_append_right _ ?_
        rw [e]
        exact List.mem_of_mem_head? a4
      · exact List.mem_append_left _ (h2 s e)
    · rw [if_neg q, if_neg q, nI_1]
      refine ih (k + 1) g AR σ τ (by omega) (by omega) hG h1 (fun s hs => ?_)
      rcases Nat.eq_or_lt_of_le (Nat.le_of_lt_succ hs) with e | e
      · rw [e]
        exact Classical.byContradiction (fun z => q ((E_un hm hG.1 hk1).mpr z))
      · exact h2 s e
