/-! the relation of the two sides between calls -/
def fB (σ0 σ : St) : Prop := ∀ c, (1 ≤ c ∧ c ≤ 4) ∨ (7 ≤ c ∧ c ≤ 12) ∨ (14 ≤ c ∧ c ≤ 20) → σ c = σ0 c
theorem B0.Cb {n ln : Nat} {σ σ' τ : St} (h : B0 n ln σ τ) (f : fB σ σ') : B0 n ln σ' τ := by
  unfold B0 Bk Rk Mk Lk Ll at h ⊢
  rw [f 1 (by decide), f 3 (by decide), f 7 (by decide), f 8 (by decide), f 9 (by decide), f 10 (by decide), f 11 (by decide), f 12 (by decide), f 14 (by decide), f 15 (by decide), f 16 (by decide), f 17 (by decide), f 18 (by decide), f 19 (by decide), f 20 (by decide)]
  exact h
def V (σ : St) : Prop := ∃ σ0 σ1 σ2, fB σ σ0 ∧ f_X5_build σ0 = some σ1 ∧ f_X0_build σ1 = some σ2 ∧ ∀ c, c = 5 ∨ c = 6 ∨ 21 ≤ c → σ c = σ2 c
def Rel (σ τ : St) : Prop := ∃ n ln, B0 n ln σ τ ∧ Wd n σ τ ∧ (σ 0 6 = 1 ∨ σ 0 6 = 0 ∧ V σ)
theorem D1.k {n : Nat} {σ σ' τ τ' : St} {S : List Nat} {f : Nat → Int32} (h : D1 n σ τ S f) (a : ∀ c, c = 5 ∨ c = 8 ∨ (21 ≤ c ∧ c ≤ 26) → σ' c = σ c) (b : kB τ τ') : D1 n σ' τ' S f := by
  unfold D1 at h ⊢
  rw [a 5 (by decide), a 8 (by decide), a 21 (by decide), a 22 (by decide), a 24 (by decide), a 25 (by decide), a 26 (by decide), b.2.2.1, b.2.2.2 15 (by decide) (by decide), b.2.2.2 16 (by decide) (by decide), b.2.2.2 17 (by decide) (by decide), b.2.2.2 18 (by decide) (by decide), b.2.2.2 19 (by decide) (by decide), b.2.2.2 20 (by decide) (by decide), b.2.2.2 21 (by decide) (by decide)]
  exact h
theorem E.k {m : Nat} {AR : List (List Nat)} {σ σ' τ : St} (h : E m AR σ τ) (a : ∀ c, c = 6 ∨ 27 ≤ c → σ' c = σ c) : E m AR σ' τ := by
  unfold E at h ⊢
  rw [a 6 (by decide), a 28 (by decide), a 29 (by decide), a 30 (by decide), a 31 (by decide), a 32 (by decide), a 33 (by decide)]
  exact h
theorem D2.k {m : Nat} {AR : List (List Nat)} {on : Nat → Int32} {σ σ' τ : St} (h : D2 m AR on σ τ) (a : ∀ c, c = 6 ∨ 27 ≤ c → σ' c = σ c) : D2 m AR on σ' τ := by
  refine ⟨h.1.k a, h.2.1, fun s hs => ?_⟩
  rw [a 27 (by decide), a 28 (by decide), a 29 (by decide)]
  exact h.2.2 s hs
theorem V_use {n ln : Nat} {σ τ : St} (h : B0 n ln σ τ) (hV : V σ) : ∃ τs τ1, f_X7_findStories τ = some τs ∧ f_X7_findArticles τ = some τ1 ∧ fM τ τs ∧ fM τ τ1 ∧ (∃ S f, D1 n σ τs S f) ∧ (∃ S f AR on, D1 n σ τ1 S f ∧ D2 (RT f n).length AR on σ τ1) ∧ (∀ k, k < n → f_X7_headOver (nI k) τ = some (σ 21 k)) := by
  obtain ⟨σ0, σ1, σ2, v1, v2, v3, v4⟩ := hV
  obtain ⟨σ1', τs, S, f, p1, p2, p3, p4, p5, p6⟩ := p_stories (h.Cb v1)
  rw [v2] at p1
  obtain rfl := Option.some.inj p1
  obtain ⟨σ2', τ1, AR, on, q1, q2, q3, q4, q5⟩ := p_articles (((h.Cb v1).C p3).M p4) p5
  rw [v3] at q1
  obtain rfl := Option.some.inj q1
  have e8 : σ 8 = σ1 8 := by rw [p3 8 (by decide), v1 8 (by decide)]
  have ek : ∀ c, c = 5 ∨ c = 8 ∨ (21 ≤ c ∧ c ≤ 26) → σ c = σ1 c := fun c hc => by
    by_cases z : c = 8
    · rw [z]; exact e8
    · rw [v4 c (by omega)]; exact q3 c (by omega)
  refine ⟨τs, τ1, p2, ?_, p4, p4.tr q4.M, ⟨S, f, p5.k ek kB.rf⟩, ⟨S, f, AR, on, p5.k ek q4, q5.k (fun c hc => v4 c (by omega))⟩, fun k hk => ?_⟩
  · unfold f_X7_findArticles
    rw [p2, bs_ok]; exact q2
  · rw [p6 k hk, ek 21 (by decide)]
theorem refresh_ok {n ln : Nat} {σ τ : St} (h : B0 n ln σ τ) (hs : σ 0 6 = 1 ∨ σ 0 6 = 0 ∧ V σ) : ∃ σ1, f_X6_refresh σ = some σ1 ∧ σ1 0 6 = 0 ∧ V σ1 ∧ (∀ c, (1 ≤ c ∧ c ≤ 4) ∨ (7 ≤ c ∧ c ≤ 20) → σ1 c = σ c) := by
  unfold f_X6_refresh
  rw [lf_ok]
  rcases hs with hs | ⟨hs, hV⟩
  · rw [hs, if_neg (by decide)]
    obtain ⟨σ1, τs, S, f, p1, p2, p3, p4, p5, p6⟩ := p_stories h
    obtain ⟨σ2, τ1, AR, on, q1, q2, q3, q4, q5⟩ := p_articles ((h.C p3).M p4) p5
    rw [p1, bs_ok, q1, bs_ok, gb0, sf_ok]
    refine ⟨_, rfl, by rw [ss_same], ⟨σ, σ1, σ2, fun c hc => ?_, p1, q1, fun c hc => by rw [ss_c _ (by omega)]⟩, fun c hc => ?_⟩
    · rw [ss_c _ (by omega), q3 c (by omega), p3 c (by omega)]
    · rw [ss_c _ (by omega), q3 c (by omega), p3 c (by omega)]
  · rw [hs, if_pos rfl]
    exact ⟨σ, rfl, hs, hV, fun _ _ => rfl⟩
theorem Wd.k {n : Nat} {σ σ' τ τ' : St} (h : Wd n σ τ) (a : σ' 8 = σ 8) (b : σ' 13 = σ 13) (c : τ' 7 = τ 7) : Wd n σ' τ' := by
  unfold Wd at h ⊢; rw [a, b, c]; exact h
/-- all that a question needs -/
theorem q_all {σ τ : St} {n ln : Nat} (h : B0 n ln σ τ) (hw : Wd n σ τ) (hs : σ 0 6 = 1 ∨ σ 0 6 = 0 ∧ V σ) : ∃ σ1 τs τ1, f_X6_refresh σ = some σ1 ∧ f_X7_findStories τ = some τs ∧ f_X7_findArticles τ = some τ1 ∧ (∀ c, (1 ≤ c ∧ c ≤ 4) ∨ (7 ≤ c ∧ c ≤ 20) → σ1 c = σ c) ∧ fM τ τs ∧ fM τ τ1 ∧ B0 n ln σ1 τ1 ∧ Wd n σ1 τ1 ∧ Rel σ1 τ ∧ Rel σ1 τs ∧ Rel σ1 τ1 ∧ (∃ S f, D1 n σ1 τs S f) ∧ (∃ S f AR on, D1 n σ1 τ1 S f ∧ D2 (RT f n).length AR on σ1 τ1) ∧ (∀ k, k < n → f_X7_headOver (nI k) τ = some (σ1 21 k)) := by
  obtain ⟨σ1, a1, a2, a3, a4⟩ := refresh_ok h hs
  have hB : B0 n ln σ1 τ := h.Cb (fun c hc => a4 c (by omega))
  obtain ⟨τs, τ1, b1, b2, b3, b4, b5, b6, b7⟩ := V_use hB a3
  have hw1 : ∀ τ', fM τ τ' → Wd n σ1 τ' := fun τ' hf => hw.k (a4 8 (by decide)) (a4 13 (by decide)) (hf.2.2 7 (by decide) (by decide))
  exact ⟨σ1, τs, τ1, a1, b1, b2, a4, b3, b4, hB.M b4, hw1 τ1 b4, ⟨n, ln, hB, hw1 τ fM.rf, Or.inr ⟨a2, a3⟩⟩, ⟨n, ln, hB.M b3, hw1 τs b3, Or.inr ⟨a2, a3⟩⟩, ⟨n, ln, hB.M b4, hw1 τ1 b4, Or.inr ⟨a2, a3⟩⟩, b5, b6, b7⟩
theorem Rel_0 : Rel s0C s0M := by
  refine ⟨0, 0, ⟨by decide, by decide, rfl, rfl, rfl, rfl, fun k hk => absurd hk (by omega), fun k hk => absurd hk (by omega), fun k hk => absurd hk (by omega), fun k hk => absurd hk (by omega)⟩, fun k hk => absurd hk (by omega), Or.inl rfl⟩
