/-- numbers between bounds -/
theorem rng {x : Int32} {m : Nat} (hm : m < 2 ^ 31) (h : ¬ (x < 0 ∨ nI m ≤ x)) : ∃ k, k < m ∧ x = nI k := (idx_or x hm).resolve_left h
set_option maxHeartbeats 2000000 in
theorem st_block {σ τ : St} (h : Rel σ τ) (a1 a2 a3 a4 a5 a6 : Int32) : ∃ (r : Int32) (σ' : St) (τ' : St), f_X6_block a1 a2 a3 a4 a5 a6 σ = some (r, σ') ∧ f_X7_block a1 a2 a3 a4 a5 a6 τ = some (r, τ') ∧ Rel σ' τ' := by
  obtain ⟨n, ln, hB, hW, hs⟩ := id h
  obtain ⟨hn, hln, c1, c2, c3, c4, hBk, hR, hM, hL⟩ := id hB
  obtain ⟨r, hr, r1, r2⟩ := p_blkL hB a1 a2 a3 a4 a5 a6 n 0 64 (by omega) (by omega)
  have r1' : f_X1_firstIn a1 a3 a4 a5 a6 σ = some r := r1
  have r2' : f_X7_block_L80 64 a1 a2 a3 a4 a5 a6 0 τ = if r = -9 then f_X7_block_L80 1 a1 a2 a3 a4 a5 a6 (nI n) τ else some (-3, τ) := r2
  rw [blk_c a1 a2 a3 a4 a5 a6 σ _ rfl, blk_m, r2']
  unfold f_X1_meets
  rw [r1', bi_ok]
  by_cases q1 : a1 < 0 ∨ 4 ≤ a1
  · rw [if_pos q1, if_pos q1]; exact ⟨-2, σ, τ, rfl, rfl, h⟩
  rw [if_neg q1, if_neg q1]
  by_cases q2 : a2 < 0 ∨ 3 ≤ a2
  · rw [if_pos q2, if_pos q2]; exact ⟨-2, σ, τ, rfl, rfl, h⟩
  rw [if_neg q2, if_neg q2]
  by_cases q3 : a3 < 0 ∨ a4 < a3 ∨ 8 ≤ a4
  · rw [if_pos q3, if_pos q3]; exact ⟨-2, σ, τ, rfl, rfl, h⟩
  rw [if_neg q3, if_neg q3]
  by_cases q4 : a5 < 0 ∨ a6 < a5 ∨ 30 ≤ a6
  · rw [if_pos q4, if_pos q4]; exact ⟨-2, σ, τ, rfl, rfl, h⟩
  rw [if_neg q4, if_neg q4]
  by_cases q5 : r = -9
  · rw [if_pos q5, if_pos q5, gb0, bi_ok, if_pos rfl]
    -- the numbers
    obtain ⟨p, hp, rfl⟩ := rng (m := 4) (by decide) q1
    obtain ⟨q, hq, rfl⟩ := rng (m := 3) (by decide) q2
    have nn : ∀ {x y : Int32}, ¬ x < 0 → ¬ y < x → ¬ y < 0 := fun hx hy z => hy (Int32.lt_of_lt_of_le z (Int32.not_lt.mp hx))
    obtain ⟨b, hb, rfl⟩ := rng (x := a4) (m := 8) (by decide) (fun z => z.elim (nn (fun z => q3 (Or.inl z)) (fun z => q3 (Or.inr (Or.inl z)))) (fun z => q3 (Or.inr (Or.inr z))))
    obtain ⟨u, hu, rfl⟩ := rng (x := a6) (m := 30) (by decide) (fun z => z.elim (nn (fun z => q4 (Or.inl z)) (fun z => q4 (Or.inr (Or.inl z)))) (fun z => q4 (Or.inr (Or.inr z))))
    obtain ⟨a, ha, rfl⟩ := nI_of (x := a3) (fun z => q3 (Or.inl z))
    obtain ⟨t, ht, rfl⟩ := nI_of (x := a5) (fun z => q4 (Or.inl z))
    have hab : a ≤ b := by
      rcases Nat.lt_or_ge b a with z | z
      · exact absurd (nI_lt z ha) (fun y => q3 (Or.inr (Or.inl y)))
      · exact z
    have htu : t ≤ u := by
      rcases Nat.lt_or_ge u t with z | z
      · exact absurd (nI_lt z ht) (fun y => q4 (Or.inr (Or.inl y)))
      · exact z
    rw [f_X7_block_L80]
    simp only [lf_ok, c1, c2, if_pos (nI_le (Nat.le_refl n) (show n < 2 ^ 31 by omega))]
    by_cases hf : n = 24
    · subst hf
      rw [if_neg (by decide), if_pos (by decide)]
      exact ⟨-4, σ, τ, rfl, rfl, h⟩
    · have hn24 : n < 24 := by omega
      rw [if_pos (show nI n < 24 from nI_lt (show n < 24 from hn24) (by decide)), if_neg (fun e => hf ((nI_eq (by omega) (by decide)).mp (e.trans (rfl : (24 : Int32) = nI 24))))]
      have F : f_X3_forgetAllOf (nI n) σ = some (ss (ss (ss (ss σ 14 (2 * n) (-9)) 15 (2 * n) (-9)) 14 (2 * n + 1) (-9)) 15 (2 * n + 1) (-9)) := by
        unfold f_X3_forgetAllOf f_X3_forget f_X3_put
        simp only [nI_20, nI_21, sd48 (show 2 * n < 48 by omega), sd48 (show 2 * n + 1 < 48 by omega), bs_ok]
      rw [F, bs_ok, gb1, sf_ok]
      unfold f_X1_add
      simp only [lf_ok, sf_ok, sd24 hn24, ss_c _ (show 1 ≠ 0 by decide), ss_c _ (show 1 ≠ 7 by decide), ss_c _ (show 1 ≠ 8 by decide), ss_c _ (show 1 ≠ 9 by decide), ss_c _ (show 1 ≠ 10 by decide), ss_c _ (show 1 ≠ 11 by decide), ss_c _ (show 1 ≠ 12 by decide), ss_c _ (show 1 ≠ 13 by decide), ss_c _ (show 1 ≠ 14 by decide), ss_c _ (show 1 ≠ 15 by decide), c1, bp_ok, nI_1]
      have M : ∀ w : Int32, f_X7_block_B219 w (nI n) (ss (ss (ss (ss (ss (ss τ 1 n (nI p)) 2 n (nI q)) 3 n (nI a)) 4 n (nI b)) 5 n (nI t)) 6 n (nI u)) = some (nI n, ss (ss (ss (ss (ss (ss (ss (ss (ss (ss τ 1 n (nI p)) 2 n (nI q)) 3 n (nI a)) 4 n (nI b)) 5 n (nI t)) 6 n (nI u)) 7 n w) 8 (2 * n) (-9)) 8 (2 * n + 1) (-9)) 0 0 (nI (n + 1))) := by
        intro w
        unfold f_X7_block_B219
        simp only [lf_ok, sf_ok, sd24 hn24, ss_c _ (show 0 ≠ 7 by decide), ss_c _ (show 0 ≠ 6 by decide), ss_c _ (show 0 ≠ 5 by decide), ss_c _ (show 0 ≠ 4 by decide), ss_c _ (show 0 ≠ 3 by decide), ss_c _ (show 0 ≠ 2 by decide), ss_c _ (show 0 ≠ 1 by decide), c2, nI_2, nI_1, sd48 (show 2 * n < 48 by omega), sd48 (show 2 * n + 1 < 48 by omega), ss_c _ (show 0 ≠ 8 by decide), ss_same, nI_pred]
      simp only [sd24 hn24, ss_c _ (show 0 ≠ 6 by decide), ss_c _ (show 0 ≠ 5 by decide), ss_c _ (show 0 ≠ 4 by decide), ss_c _ (show 0 ≠ 3 by decide), ss_c _ (show 0 ≠ 2 by decide), ss_c _ (show 0 ≠ 1 by decide), c2, M]
      have key : ∀ w : Int32, (w = if nI q = 1 then 1 else -9) → Rel (ss (ss (ss (ss (ss (ss (ss (ss (ss (ss (ss (ss (ss σ 14 (2 * n) (-9)) 15 (2 * n) (-9)) 14 (2 * n + 1) (-9)) 15 (2 * n + 1) (-9)) 0 6 1) 7 n (nI p)) 8 n (nI q)) 9 n (nI a)) 10 n (nI b)) 11 n (nI t)) 12 n (nI u)) 13 n 1) 1 0 (nI (n + 1))) (ss (ss (ss (ss (ss (ss (ss (ss (ss (ss τ 1 n (nI p)) 2 n (nI q)) 3 n (nI a)) 4 n (nI b)) 5 n (nI t)) 6 n (nI u)) 7 n w) 8 (2 * n) (-9)) 8 (2 * n + 1) (-9)) 0 0 (nI (n + 1))) := by
        intro w hw
        generalize eσ : ss (ss (ss (ss (ss (ss (ss (ss (ss (ss (ss (ss (ss σ 14 (2 * n) (-9)) 15 (2 * n) (-9)) 14 (2 * n + 1) (-9)) 15 (2 * n + 1) (-9)) 0 6 1) 7 n (nI p)) 8 n (nI q)) 9 n (nI a)) 10 n (nI b)) 11 n (nI t)) 12 n (nI u)) 13 n 1) 1 0 (nI (n + 1)) = σ'
        generalize eτ : ss (ss (ss (ss (ss (ss (ss (ss (ss (ss τ 1 n (nI p)) 2 n (nI q)) 3 n (nI a)) 4 n (nI b)) 5 n (nI t)) 6 n (nI u)) 7 n w) 8 (2 * n) (-9)) 8 (2 * n + 1) (-9)) 0 0 (nI (n + 1)) = τ'
        have s7 : ∀ j, σ' 7 j = if j = n then nI p else σ 7 j := fun j => by rw [← eσ]; simp [ss, upd]
        have s8 : ∀ j, σ' 8 j = if j = n then nI q else σ 8 j := fun j => by rw [← eσ]; simp [ss, upd]
        have s9 : ∀ j, σ' 9 j = if j = n then nI a else σ 9 j := fun j => by rw [← eσ]; simp [ss, upd]
        have s10 : ∀ j, σ' 10 j = if j = n then nI b else σ 10 j := fun j => by rw [← eσ]; simp [ss, upd]
        have s11 : ∀ j, σ' 11 j = if j = n then nI t else σ 11 j := fun j => by rw [← eσ]; simp [ss, upd]
        have s12 : ∀ j, σ' 12 j = if j = n then nI u else σ 12 j := fun j => by rw [← eσ]; simp [ss, upd]
        have s13 : ∀ j, σ' 13 j = if j = n then 1 else σ 13 j := fun j => by rw [← eσ]; simp [ss, upd]
        have s14 : ∀ j, σ' 14 j = if j = 2 * n + 1 then -9 else if j = 2 * n then -9 else σ 14 j := fun j => by rw [← eσ]; simp [ss, upd]
        have s15 : ∀ j, σ' 15 j = if j = 2 * n + 1 then -9 else if j = 2 * n then -9 else σ 15 j := fun j => by rw [← eσ]; simp [ss, upd]
        have s1 : σ' 1 0 = nI (n + 1) := by rw [← eσ]; simp [ss, upd]
        have s0 : σ' 0 6 = 1 := by rw [← eσ]; simp [ss, upd]
        have sl : ∀ c, c = 3 ∨ (16 ≤ c ∧ c ≤ 20) → σ' c = σ c := fun c hc => by
          rw [← eσ, ss_c _ (by omega), ss_c _ (by omega), ss_c _ (by omega), ss_c _ (by omega), ss_c _ (by omega), ss_c _ (by omega), ss_c _ (by omega), ss_c _ (by omega), ss_c _ (by omega), ss_c _ (by omega), ss_c _ (by omega), ss_c _ (by omega), ss_c _ (by omega)]
        have t1 : ∀ j, τ' 1 j = if j = n then nI p else τ 1 j := fun j => by rw [← eτ]; simp [ss, upd]
        have t2 : ∀ j, τ' 2 j = if j = n then nI q else τ 2 j := fun j => by rw [← eτ]; simp [ss, upd]
        have t3 : ∀ j, τ' 3 j = if j = n then nI a else τ 3 j := fun j => by rw [← eτ]; simp [ss, upd]
        have t4 : ∀ j, τ' 4 j = if j = n then nI b else τ 4 j := fun j => by rw [← eτ]; simp [ss, upd]
        have t5 : ∀ j, τ' 5 j = if j = n then nI t else τ 5 j := fun j => by rw [← eτ]; simp [ss, upd]
        have t6 : ∀ j, τ' 6 j = if j = n then nI u else τ 6 j := fun j => by rw [← eτ]; simp [ss, upd]
        have t7 : ∀ j, τ' 7 j = if j = n then w else τ 7 j := fun j => by rw [← eτ]; simp [ss, upd]
        have t8 : ∀ j, τ' 8 j = if j = 2 * n + 1 then -9 else if j = 2 * n then -9 else τ 8 j := fun j => by rw [← eτ]; simp [ss, upd]
        have t0 : τ' 0 0 = nI (n + 1) := by rw [← eτ]; simp [ss, upd]
        have t10 : τ' 0 10 = τ 0 10 := by rw [← eτ]; simp [ss, upd]
        have tl : ∀ c, 9 ≤ c ∧ c ≤ 14 → τ' c = τ c := fun c hc => by
          rw [← eτ, ss_c _ (by omega), ss_c _ (by omega), ss_c _ (by omega), ss_c _ (by omega), ss_c _ (by omega), ss_c _ (by omega), ss_c _ (by omega), ss_c _ (by omega), ss_c _ (by omega), ss_c _ (by omega)]
        clear eσ eτ
        refine ⟨n + 1, ln, ⟨by omega, hln, s1, t0, by rw [sl 3 (by decide)]; exact c3, by rw [t10]; exact c4, fun k hk => ?_, fun k hk => ?_, fun k hk => ?_, fun k hk => ?_⟩, fun k hk => ?_, Or.inl s0⟩
        · unfold Bk
          rw [s7, s8, s9, s10, s11, s12, t1, t2, t3, t4, t5, t6]
          by_cases z : k = n
          · subst z; simp only [if_true, eq_self, reduceIte]; exact ⟨trivial, trivial, trivial, trivial, trivial, trivial⟩
          · simp only [if_neg z]; exact hBk k (by omega)
        · unfold Rk
          rw [s7, s8, s9, s10, s11, s12]
          by_cases z : k = n
          · subst z; simp only [if_true, eq_self, reduceIte]
            exact ⟨p, q, a, b, t, u, hp, hq, hab, hb, htu, hu, rfl, rfl, rfl, rfl, rfl, rfl⟩
          · simp only [if_neg z]; exact hR k (by omega)
        · unfold Mk
          rw [s8, s14, s14, s15, s15, t8, t8, tl 9 (by decide)]
          by_cases z : k = n
          · subst z
            rw [if_neg (show ¬ 2 * k = 2 * k + 1 by omega), if_neg (show ¬ 2 * k = 2 * k + 1 by omega), if_neg (show ¬ 2 * k = 2 * k + 1 by omega)]
            simp
          · rw [if_neg (show ¬ 2 * k = 2 * n + 1 by omega), if_neg (show ¬ 2 * k = 2 * n + 1 by omega), if_neg (show ¬ 2 * k = 2 * n + 1 by omega), if_neg (show ¬ 2 * k = 2 * n by omega), if_neg (show ¬ 2 * k = 2 * n by omega), if_neg (show ¬ 2 * k = 2 * n by omega), if_neg (show ¬ 2 * k + 1 = 2 * n + 1 by omega), if_neg (show ¬ 2 * k + 1 = 2 * n + 1 by omega), if_neg (show ¬ 2 * k + 1 = 2 * n + 1 by omega), if_neg (show ¬ 2 * k + 1 = 2 * n by omega), if_neg (show ¬ 2 * k + 1 = 2 * n by omega), if_neg (show ¬ 2 * k + 1 = 2 * n by omega), if_neg z]
            exact hM k (by omega)
        · unfold Lk Ll
          rw [sl 16 (by decide), sl 17 (by decide), sl 18 (by decide), sl 19 (by decide), sl 20 (by decide), tl 10 (by decide), tl 11 (by decide), tl 12 (by decide), tl 13 (by decide), tl 14 (by decide)]
          exact hL k hk
        · rw [s8, s13, t7]
          by_cases z : k = n
          · subst z
            rw [if_pos rfl, if_pos rfl, if_pos rfl, hw]
            exact ⟨fun y => by rw [if_pos y], fun y => by rw [if_neg y]⟩
          · rw [if_neg z, if_neg z, if_neg z]; exact hW k (by omega)
      by_cases hq1 : nI q = 1
      · rw [if_pos hq1]
        exact ⟨nI n, _, _, rfl, rfl, key 1 (by rw [if_pos hq1])⟩
      · rw [if_neg hq1]
        exact ⟨nI n, _, _, rfl, rfl, key (-9) (by rw [if_neg hq1])⟩
  · rw [if_neg q5, if_neg q5, gb1, bi_ok, if_neg (by decide)]
    exact ⟨-3, σ, τ, rfl, rfl, h⟩
