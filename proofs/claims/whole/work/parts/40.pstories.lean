/-! the stories of both sides -/
def D1 (n : Nat) (σ τ : St) (S : List Nat) (f : Nat → Int32) : Prop :=
  rooted n f ∧ (∀ j, j < n → τ 15 j = σ 21 j ∧ τ 17 j = σ 22 j ∧ (σ 22 j = -9 ∨ σ 8 j = 1) ∧ σ 24 j = sto f j ∧ τ 21 j = sto f j ∧ (σ 8 j ≠ 2 → f j ≠ -9) ∧ (σ 8 j = 1 → (τ 16 j = -9 ↔ f j = nI j)) ∧ (σ 8 j = 0 → f j = nI j) ∧ (σ 8 j = 2 → f j ≠ nI j)) ∧
  S.Nodup ∧ (∀ j, j ∈ S ↔ j < n ∧ σ 8 j = 1) ∧ σ 5 10 = nI S.length ∧ rep (σ 26) 0 S ∧
  σ 5 3 = nI (RT f n).length ∧ τ 0 21 = nI (RT f n).length ∧ rep (σ 25) 0 (RT f n) ∧ rep (τ 20) 0 (RT f n) ∧
  ∀ b, b < n → τ 18 b = nI (fl f b S).length ∧ rep (τ 19) (24 * b) (fl f b S)
theorem p_stories {n ln : Nat} {σ0 τ0 : St} (h : B0 n ln σ0 τ0) : ∃ σ1 τ1 S f, f_X5_build σ0 = some σ1 ∧ f_X7_findStories τ0 = some τ1 ∧ fC σ0 σ1 ∧ fM τ0 τ1 ∧ D1 n σ1 τ1 S f ∧ (∀ k, k < n → f_X7_headOver (nI k) τ0 = some (σ1 21 k)) := by
  have hn := h.1
  obtain ⟨ov, hov⟩ := OV_ex h
  -- first loops
  obtain ⟨σa, a1, a2⟩ := p_b1 h hov n 0 64 (ss σ0 5 10 0) (by omega) (by omega) ⟨fC.rf.st (by decide), fun j hj => absurd hj (by omega), by rw [ss_same]; rfl, rep_nil _ _⟩
  obtain ⟨τa, b1, b2⟩ := p_m1 h hov n 0 64 τ0 (by omega) (by omega) ⟨fM.rf, fun j hj => absurd hj (by omega)⟩
  obtain ⟨τb, b3, b4⟩ := p_m2 h hov n 0 64 τa (by omega) (by omega) ⟨b2.1, fun j hj => ⟨(b2.2 j hj).1, (b2.2 j hj).2.1, (b2.2 j hj).2.2.1⟩, fun w hw => ⟨by rw [(b2.2 w hw).2.2.2]; rfl, rep_nil _ _⟩⟩
  -- joins
  have hJ0 := J_0 h hov a2 b4
  have hl0 := J_len hJ0
  obtain ⟨S, σj, τj, hJ, j1, j2⟩ := p_jw h (n - (Sq (ky σ0) (σ0 8) ov n).length) 0 64 64 _ σa τb hJ0 (by omega) (by omega) (by omega) (by omega)
  obtain ⟨fc, fm, hj, hnd, hmem, ht, hr, hw⟩ := id hJ
  have hJr : Jr n (σ0 8) ov (σj 23) (τj 16) := fun j hjn => ⟨kd3 h hjn, (hov j hjn).1, (hj j hjn).2.2.2.2.1, (hj j hjn).2.2.2.2.2.1, (hj j hjn).2.2.2.2.2.2⟩
  have hroot := Jr_root hn hJr
  have hSlen := J_len hJ
  -- the class
  obtain ⟨σb, c1, c2⟩ := p_a1 (tk := σj 22) h hnd hmem n 0 64 σj (by omega) (by omega) ⟨fc, fun j hjn => ⟨(hj j hjn).1, rfl, by rw [if_neg (by omega)]⟩, by rw [show LO (σ0 8) (σj 23) 0 = [] from rfl, List.append_nil]; exact ht, by rw [show LO (σ0 8) (σj 23) 0 = [] from rfl, List.append_nil]; exact hr⟩
  obtain ⟨fcb, d1, d2, d3⟩ := c2
  obtain ⟨σ1, e1, e2, e3, e4, e5, e6⟩ := p_gn (f := fr (σ0 8) (σj 23)) h hroot σb fcb (fun j hjn => by rw [(d1 j hjn).2.2, if_pos hjn])
  -- the reference
  obtain ⟨τc, g1, g2⟩ := p_a2 (tk := σj 22) h hJr (fun j hjS => (hmem j).mp hjS) (fun w => Nat.le_trans (fl_len _ _ _) (by omega)) n 0 64 (ss τj 0 21 0) (by omega) (by omega) ⟨fm.st0 (by decide), fun j hjn => by
      rw [ss_c _ (by decide), ss_c _ (by decide), ss_c _ (by decide)]; exact ⟨(hj j hjn).2.1, rfl, (hj j hjn).2.2.1⟩, by rw [ss_same]; rfl, rep_nil _ _, fun j hj0 => absurd hj0 (by omega), fun w hwn => by
      rw [ss_c _ (by decide), ss_c _ (by decide), if_neg (fun z => absurd z.1 (by omega)), List.append_nil]; exact hw w hwn⟩
  obtain ⟨fmc, i1, i2, i3, i4, i5⟩ := g2
  obtain ⟨τ1, k1, k2, k3⟩ := p_a3 h hJr τc fmc (fun j hjn => ⟨(i1 j hjn).1, (i1 j hjn).2.1⟩) n 0 64 τc (by omega) (by omega) (fun _ _ => rfl) (fun j hjn z => by
    rcases z with z | z
    · omega
    · rw [i4 j hjn z, sto_r (by omega) z])
  have fc1 : fC σ0 σ1 := fun c z => by rw [e2 c (by omega) (by omega) (by omega)]; exact fcb c z
  have fm1 : fM τ0 τ1 := ⟨by rw [k2 0 (by decide)]; exact fmc.1, by rw [k2 0 (by decide)]; exact fmc.2.1, fun c z1 z2 => by rw [k2 c (by omega)]; exact fmc.2.2 c z1 z2⟩
  have e8 : σ1 8 = σ0 8 := fc1 8 (by decide)
  have hfl : ∀ b, b < n → fl (fr (σ0 8) (σj 23)) b (S ++ LO (σ0 8) (σj 23) n) = fl (σj 23) b S ++ if b < n ∧ σ0 8 b = 1 ∧ σj 23 b = -9 then [b] else [] := by
    intro b hb
    rw [← LO_fl (σ0 8) (σj 23) (fr (σ0 8) (σj 23)) b (fun j q => by unfold fr; rw [if_pos q]) (by omega) n (by omega)]
    unfold fl
    rw [List.filter_append]
    congr 1
    refine List.filter_congr (fun j hjS => ?_)
    have : fr (σ0 8) (σj 23) j = σj 23 j := by unfold fr; rw [if_neg (fun z => ((hmem j).mp hjS).2.2 z.2)]
    rw [this]
  refine ⟨σ1, τ1, S ++ LO (σ0 8) (σj 23) n, fr (σ0 8) (σj 23), ?_, ?_, fc1, fm1, ⟨hroot, fun j hjn => ?_, SLO_nodup hnd hmem n, fun j => ?_, by rw [e3]; exact d2, by rw [e2 26 (by decide) (by decide) (by decide)]; exact d3, e4, by rw [k2 0 (by decide)]; exact i2, e5, by rw [k2 20 (by decide)]; exact i3, fun b hb => ?_⟩, fun k hk => ?_⟩
  · have a1' : f_X5_build_L7 64 0 (ss σ0 5 10 0) = f_X5_build_L62 64 0 σa := a1
    have j1' : f_X5_build_L62 64 0 σa = f_X5_build_L88 64 0 σj := j1
    have c1' : f_X5_build_L88 64 0 σj = bs (f_X5_giveNumbers σb) (fun σ2 => some σ2) := c1
    unfold f_X5_build
    rw [sf_ok, a1', j1', c1', e1, bs_ok]
  · have b1' : f_X7_findStories_L2 64 0 τ0 = f_X7_findStories_L71 64 0 τa := b1
    have b3' : f_X7_findStories_L71 64 0 τa = f_X7_findStories_L109 64 1 τb := b3
    have g1' : f_X7_findStories_L128 64 0 (ss τj 0 21 0) = f_X7_findStories_L224 64 0 τc := g1
    have k1' : f_X7_findStories_L224 64 0 τc = some τ1 := k1
    unfold f_X7_findStories
    rw [b1', b3', j2, g1', k1']
  · obtain ⟨h3, h4, h5, h6, h7⟩ := hJr j hjn
    have own := Jr_own hn hJr hjn
    rw [k2 15 (by decide), k2 16 (by decide), k2 17 (by decide), e2 21 (by decide) (by decide) (by decide), e2 22 (by decide) (by decide) (by decide), e8, (i1 j hjn).1, (i1 j hjn).2.1, (i1 j hjn).2.2, (d1 j hjn).1, (d1 j hjn).2.1, e6 j hjn, k3 j hjn]
    refine ⟨rfl, rfl, (hj j hjn).2.2.2.1, rfl, rfl, fun q => ?_, fun q => ?_, fun q => own.mpr (Or.inl q), fun q z => ?_⟩
    · rcases h3 with y | y | y
      · rw [own.mpr (Or.inl y)]; exact nI_ne9 (by omega)
      · unfold fr
        by_cases z : σj 23 j = -9
        · rw [if_pos ⟨y, z⟩]; exact nI_ne9 (by omega)
        · rw [if_neg (fun w => z w.2)]; exact z
      · exact absurd y q
    · constructor
      · intro z; exact own.mpr (Or.inr ⟨q, z⟩)
      · intro z
        rcases own.mp z with y | y
        · exact absurd (y.symm.trans q) (by decide)
        · exact y.2
    · rcases own.mp z with y | y
      · exact absurd (y.symm.trans q) (by decide)
      · exact absurd (y.1.symm.trans q) (by decide)
  · rw [List.mem_append, hmem j, LO_mem, e8]
    constructor
    · rintro (z | z)
      · exact ⟨z.1, z.2.1⟩
      · exact ⟨z.1, z.2.1⟩
    · rintro ⟨z1, z2⟩
      by_cases y : σj 23 j = -9
      · exact Or.inr ⟨z1, z2, y⟩
      · exact Or.inl ⟨z1, z2, y⟩
  · rw [hfl b hb, k2 18 (by decide), k2 19 (by decide)]
    exact i5 b hb
  · rw [e2 21 (by decide) (by decide) (by decide), (d1 k hk).1]
    exact (hov k hk).2.2.2 τ0 fM.rf
