/-! the articles of both sides -/
def D2 (m : Nat) (AR : List (List Nat)) (on : Nat → Int32) (σ τ : St) : Prop := E m AR σ τ ∧ (∀ s, s < m → s ∈ AR.flatten) ∧ ∀ s, s < m → σ 27 s = on s ∧ (τ 22 s = if on s = -9 then 0 else 1) ∧ τ 24 s = σ 28 s ∧ τ 25 s = σ 29 s
theorem p_articles {n ln : Nat} {σ τ : St} {S : List Nat} {f : Nat → Int32} (h : B0 n ln σ τ) (hD : D1 n σ τ S f) : ∃ σ1 τ1 AR on, f_X0_build σ = some σ1 ∧ f_X7_findArticles_L6 64 0 τ = some τ1 ∧ kA σ σ1 ∧ kB τ τ1 ∧ D2 (RT f n).length AR on σ1 τ1 := by
  have hn := h.1
  obtain ⟨on, am, hA⟩ := AM_ex h hD
  have hmn := RT_len f n
  generalize hm : (RT f n).length = m at hA hmn
  have c5 : σ 5 3 = nI m := by rw [← hm]; exact hD.2.2.2.2.2.2.1
  have c5' : τ 0 21 = nI m := by rw [← hm]; exact hD.2.2.2.2.2.2.2.1
  obtain ⟨σa, a1, a2, a3, a4⟩ := p_x1 (by omega) hA c5 m 0 64 (ss σ 6 3 0) (by omega) (by omega) (kA.rf.st (by decide)) (by rw [ss_same]) (fun s hs => absurd hs (by omega))
  obtain ⟨τa, b1, b2, b3⟩ := p_y1 (by omega) hn hA c5' m 0 64 τ (by omega) (by omega) kB.rf (fun s hs => absurd hs (by omega))
  obtain ⟨σb, τb, d1, d2, d3⟩ := p_lk (by omega) hn hA c5 c5' m 0 64 σa τa (by omega) (by omega) ⟨a2, b2, a3, fun s hs => by
    obtain ⟨x1, x2, x3, x4⟩ := a4 s hs
    obtain ⟨y1, y2, y3, y4, y5⟩ := b3 s hs
    exact ⟨x1, y1, y2, by rw [y3, x2], by rw [y4, x3], x4, y5, Or.inl x2⟩⟩
  obtain ⟨k1, k2, k3, k4⟩ := d3
  have hLn : Ln m σb (ss (ss τb 0 28 0) 0 33 0) := by
    refine ⟨by rw [k1 5 (by decide)]; exact c5, by rw [ss_ne _ _ _ _ _ (by decide), ss_ne _ _ _ _ _ (by decide), k2.2.2.1]; exact c5', fun s hs => ?_⟩
    rw [ss_c _ (show 24 ≠ 0 by decide), ss_c _ (show 24 ≠ 0 by decide), ss_c _ (show 25 ≠ 0 by decide), ss_c _ (show 25 ≠ 0 by decide)]
    obtain ⟨y1, y2, y3, y4, y5, y6, y7, y8⟩ := k4 s hs
    exact ⟨y4, y5, y8⟩
  have hG0 : G n m σb (ss (ss τb 0 28 0) 0 33 0) [] σb (ss (ss τb 0 28 0) 0 33 0) := by
    refine ⟨⟨by simp, fun s hs => by simp at hs, by rw [k3]; rfl, by rw [ss_ne _ _ _ _ _ (by decide), ss_same]; rfl, by rw [ss_same]; rfl, fun s hs => ?_, fun r hr hne => absurd rfl hne, fun r l hr => by simp at hr⟩, fun _ _ _ _ _ _ => rfl, fun _ _ _ _ _ _ => rfl, fun _ _ _ => rfl⟩
    rw [ss_c _ (show 29 ≠ 0 by decide), ss_c _ (show 29 ≠ 0 by decide)]
    obtain ⟨y1, y2, y3, y4, y5, y6, y7, y8⟩ := k4 s hs
    exact ⟨by rw [y6, y7], fun _ => y6⟩
  obtain ⟨AR1, σc, τc, e1, e2, e3, e4⟩ := p_p1 (n := n) (by omega) hLn m 0 64 [] σb _ (by omega) (by omega) hG0 (fun y hy => by simp at hy) (fun s hs => absurd hs (by omega))
  obtain ⟨AR2, σd, τd, g1, g2, g3, g4⟩ := p_p2 (n := n) (by omega) hLn m 0 64 AR1 σc τc (by omega) (by omega) e3 e4 (fun s hs => absurd hs (by omega))
  have a1' : f_X0_build_L7 64 0 (ss σ 6 3 0) = f_X0_build_L61 64 0 σa := a1
  have d1' : f_X0_build_L61 64 0 σa = f_X0_build_L85 64 0 σb := d1
  have e1' : f_X0_build_L85 64 0 σb = f_X0_build_L120 64 0 σc := e1
  have g1' : f_X0_build_L120 64 0 σc = some σd := g1
  have b1' : f_X7_findArticles_L6 64 0 τ = f_X7_findArticles_L91 64 0 τa := b1
  have d2' : f_X7_findArticles_L91 64 0 τa = f_X7_findArticles_L160 64 0 (ss (ss τb 0 28 0) 0 33 0) := d2
  have e2' : f_X7_findArticles_L160 64 0 (ss (ss τb 0 28 0) 0 33 0) = f_X7_findArticles_L193 64 0 τc := e2
  have g2' : f_X7_findArticles_L193 64 0 τc = some τd := g2
  obtain ⟨hE, q1, q2, q3⟩ := g3
  refine ⟨σd, τd, AR2, on, ?_, ?_, ?_, ?_, ?_⟩
  · unfold f_X0_build
    rw [sf_ok, a1', d1', e1', g1']
  · rw [b1', d2', e2', g2']
  · intro c hc
    rw [q1 c (by omega) (by omega) (by omega) (by omega) (by omega)]; exact k1 c hc
  · refine ⟨?_, ?_, ?_, fun c z1 z2 => ?_⟩
    · rw [q3 0 (by decide) (by decide), ss_ne _ _ _ _ _ (by decide), ss_ne _ _ _ _ _ (by decide)]; exact k2.1
    · rw [q3 10 (by decide) (by decide), ss_ne _ _ _ _ _ (by decide), ss_ne _ _ _ _ _ (by decide)]; exact k2.2.1
    · rw [q3 21 (by decide) (by decide), ss_ne _ _ _ _ _ (by decide), ss_ne _ _ _ _ _ (by decide)]; exact k2.2.2.1
    · rw [q2 c (by omega) (by omega) (by omega) (by omega) (by omega), ss_c _ (by omega), ss_c _ (by omega)]; exact k2.2.2.2 c z1 z2
  · skip
    refine ⟨hE, g4, fun s hs => ?_⟩
    obtain ⟨y1, y2, y3, y4, y5, y6, y7, y8⟩ := k4 s hs
    rw [q1 27 (by decide) (by decide) (by decide) (by decide) (by decide), q1 28 (by decide) (by decide) (by decide) (by decide) (by decide), q1 29 (by decide) (by decide) (by decide) (by decide) (by decide), q2 22 (by decide) (by decide) (by decide) (by decide) (by decide), q2 24 (by decide) (by decide) (by decide) (by decide) (by decide), q2 25 (by decide) (by decide) (by decide) (by decide) (by decide), ss_c _ (show 22 ≠ 0 by decide), ss_c _ (show 22 ≠ 0 by decide), ss_c _ (show 24 ≠ 0 by decide), ss_c _ (show 24 ≠ 0 by decide), ss_c _ (show 25 ≠ 0 by decide), ss_c _ (show 25 ≠ 0 by decide)]
    exact ⟨y1, y2, y4, y5⟩
