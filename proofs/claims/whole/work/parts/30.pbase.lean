/-! Pure rows: the guards at numbers that are in range -/
theorem ld_ok {α : Type} {σ : St} {c n i : Nat} {k : Int32 → Option α} (h : i < n) (hn : n < 2 ^ 31) : ld σ c n (nI i) k = k (σ c i) := by
  unfold ld; rw [if_neg (nI_in h hn), nI_clamp (by omega)]
theorem sd_ok {α : Type} {σ : St} {c n i : Nat} {v : Int32} {k : St → Option α} (h : i < n) (hn : n < 2 ^ 31) : sd σ c n (nI i) v k = k (ss σ c i v) := by
  unfold sd; rw [if_neg (nI_in h hn), nI_clamp (by omega)]
theorem ld24 {α : Type} {σ : St} {c i : Nat} {k : Int32 → Option α} (h : i < 24) : ld σ c 24 (nI i) k = k (σ c i) := ld_ok h (by decide)
theorem ld25 {α : Type} {σ : St} {c i : Nat} {k : Int32 → Option α} (h : i < 25) : ld σ c 25 (nI i) k = k (σ c i) := ld_ok h (by decide)
theorem ld12 {α : Type} {σ : St} {c i : Nat} {k : Int32 → Option α} (h : i < 12) : ld σ c 12 (nI i) k = k (σ c i) := ld_ok h (by decide)
theorem ld48 {α : Type} {σ : St} {c i : Nat} {k : Int32 → Option α} (h : i < 48) : ld σ c 48 (nI i) k = k (σ c i) := ld_ok h (by decide)
theorem ld576 {α : Type} {σ : St} {c i : Nat} {k : Int32 → Option α} (h : i < 576) : ld σ c 576 (nI i) k = k (σ c i) := ld_ok h (by decide)
theorem sd24 {α : Type} {σ : St} {c i : Nat} {v : Int32} {k : St → Option α} (h : i < 24) : sd σ c 24 (nI i) v k = k (ss σ c i v) := sd_ok h (by decide)
theorem sd25 {α : Type} {σ : St} {c i : Nat} {v : Int32} {k : St → Option α} (h : i < 25) : sd σ c 25 (nI i) v k = k (ss σ c i v) := sd_ok h (by decide)
theorem sd12 {α : Type} {σ : St} {c i : Nat} {v : Int32} {k : St → Option α} (h : i < 12) : sd σ c 12 (nI i) v k = k (ss σ c i v) := sd_ok h (by decide)
theorem sd48 {α : Type} {σ : St} {c i : Nat} {v : Int32} {k : St → Option α} (h : i < 48) : sd σ c 48 (nI i) v k = k (ss σ c i v) := sd_ok h (by decide)
theorem sd576 {α : Type} {σ : St} {c i : Nat} {v : Int32} {k : St → Option α} (h : i < 576) : sd σ c 576 (nI i) v k = k (ss σ c i v) := sd_ok h (by decide)
theorem lf_ok {α : Type} {σ : St} {c j : Nat} {k : Int32 → Option α} : lf σ c j k = k (σ c j) := rfl
theorem sf_ok {α : Type} {σ : St} {c j : Nat} {v : Int32} {k : St → Option α} : sf σ c j v k = k (ss σ c j v) := rfl
theorem gb0 {α : Type} {k : Option α} : gb 0 k = k := if_pos (Or.inl rfl)
theorem gb1 {α : Type} {k : Option α} : gb 1 k = k := if_pos (Or.inr rfl)
theorem bi_ok {α : Type} {r : Int32} {k : Int32 → Option α} : bi (some r) k = k r := rfl
theorem bs_ok {α : Type} {r : St} {k : St → Option α} : bs (some r) k = k r := rfl
theorem bp_ok {α : Type} {r : Int32} {σ : St} {k : Int32 → St → Option α} : bp (some (r, σ)) k = k r σ := rfl
theorem ss_same (σ : St) (c k : Nat) (v : Int32) : ss σ c k v c k = v := by simp [ss, upd]
theorem ss_ne (σ : St) (c k j : Nat) (v : Int32) (h : j ≠ k) : ss σ c k v c j = σ c j := by simp [ss, upd, h]
theorem ss_if (σ : St) (c k j : Nat) (v : Int32) : ss σ c k v c j = if j = k then v else σ c j := by simp [ss, upd]
theorem ss_c (σ : St) {c d k : Nat} {v : Int32} (h : d ≠ c) : ss σ c k v d = σ d := by simp [ss, h]
theorem nI_ne9 {a : Nat} (h : a < 2 ^ 31) : ¬ nI a = -9 := by
  intro e
  have := congrArg Int32.toInt e
  rw [nI_toInt h] at this
  have h9 : (-9 : Int32).toInt = -9 := by decide
  omega
theorem ne9_nI {a : Nat} (h : a < 2 ^ 31) : ¬ (-9 : Int32) = nI a := fun e => nI_ne9 h e.symm
theorem nI_lit0 : (0 : Int32) = nI 0 := rfl
theorem nI_lit1 : (1 : Int32) = nI 1 := rfl
theorem nI_lit2 : (2 : Int32) = nI 2 := rfl
/-! the base relation: blocks, marks, lines of both sides -/
def Bk (σ τ : St) (k : Nat) : Prop := τ 1 k = σ 7 k ∧ τ 2 k = σ 8 k ∧ τ 3 k = σ 9 k ∧ τ 4 k = σ 10 k ∧ τ 5 k = σ 11 k ∧ τ 6 k = σ 12 k
def Rk (σ : St) (k : Nat) : Prop := ∃ p q a b t u : Nat, p < 4 ∧ q < 3 ∧ a ≤ b ∧ b < 8 ∧ t ≤ u ∧ u < 30 ∧ σ 7 k = nI p ∧ σ 8 k = nI q ∧ σ 9 k = nI a ∧ σ 10 k = nI b ∧ σ 11 k = nI t ∧ σ 12 k = nI u
def Mk (σ τ : St) (j : Nat) : Prop := τ 8 j = σ 14 j ∧ (σ 14 j = -9 → σ 15 j = -9) ∧ (σ 14 j ≠ -9 → τ 9 j = σ 15 j)
def Lk (σ τ : St) (k : Nat) : Prop := τ 10 k = σ 16 k ∧ τ 11 k = σ 17 k ∧ τ 12 k = σ 18 k ∧ τ 13 k = σ 19 k ∧ τ 14 k = σ 20 k
def Ll (σ : St) (k : Nat) : Prop := ∃ p w x a b : Nat, p < 4 ∧ w < 2 ∧ 1 ≤ x ∧ x < 30 ∧ a ≤ b ∧ b < 30 ∧ (w = 0 → x < 8) ∧ (w = 1 → b < 8) ∧ σ 16 k = nI p ∧ σ 17 k = nI w ∧ σ 18 k = nI x ∧ σ 19 k = nI a ∧ σ 20 k = nI b
def B0 (n ln : Nat) (σ τ : St) : Prop := n ≤ 24 ∧ ln ≤ 12 ∧ σ 1 0 = nI n ∧ τ 0 0 = nI n ∧ σ 3 0 = nI ln ∧ τ 0 10 = nI ln ∧ (∀ k, k < n → Bk σ τ k) ∧ (∀ k, k < n → Rk σ k) ∧ (∀ k, k < n → Mk σ τ (2 * k) ∧ Mk σ τ (2 * k + 1) ∧ (σ 8 k = 2 → σ 14 (2 * k) = -9 ∧ σ 14 (2 * k + 1) = -9)) ∧ (∀ k, k < ln → Lk σ τ k ∧ Ll σ k)
def Wd (n : Nat) (σ τ : St) : Prop := ∀ k, k < n → (σ 8 k = 1 → τ 7 k = σ 13 k) ∧ (σ 8 k ≠ 1 → τ 7 k = -9)
def fC (σ σ' : St) : Prop := ∀ c, (c ≤ 4 ∨ (7 ≤ c ∧ c ≤ 20)) → σ' c = σ c
def fM (τ τ' : St) : Prop := τ' 0 0 = τ 0 0 ∧ τ' 0 10 = τ 0 10 ∧ ∀ c, 1 ≤ c → c ≤ 14 → τ' c = τ c
theorem fC.rf {σ : St} : fC σ σ := fun _ _ => rfl
theorem fM.rf {τ : St} : fM τ τ := ⟨rfl, rfl, fun _ _ _ => rfl⟩
theorem fC.tr {σ σ' σ'' : St} (h : fC σ σ') (h' : fC σ' σ'') : fC σ σ'' := fun c hc => (h' c hc).trans (h c hc)
theorem fM.tr {τ τ' τ'' : St} (h : fM τ τ') (h' : fM τ' τ'') : fM τ τ'' := ⟨h'.1.trans h.1, h'.2.1.trans h.2.1, fun c h1 h2 => (h'.2.2 c h1 h2).trans (h.2.2 c h1 h2)⟩
theorem fC.st {σ σ' : St} {c k : Nat} {v : Int32} (h : fC σ σ') (hc : 4 < c ∧ (c < 7 ∨ 20 < c)) : fC σ (ss σ' c k v) := fun d hd => by
  rw [ss_c _ (by omega)]; exact h d hd
theorem fM.st {τ τ' : St} {c k : Nat} {v : Int32} (h : fM τ τ') (hc : 14 < c) : fM τ (ss τ' c k v) :=
  ⟨by rw [ss_c _ (by omega)]; exact h.1, by rw [ss_c _ (by omega)]; exact h.2.1, fun d h1 h2 => by rw [ss_c _ (by omega)]; exact h.2.2 d h1 h2⟩
theorem fM.st0 {τ τ' : St} {k : Nat} {v : Int32} (h : fM τ τ') (hk : k ≠ 0 ∧ k ≠ 10) : fM τ (ss τ' 0 k v) :=
  ⟨by rw [ss_ne _ _ _ _ _ (by omega)]; exact h.1, by rw [ss_ne _ _ _ _ _ (by omega)]; exact h.2.1, fun d h1 h2 => by rw [ss_c _ (by omega)]; exact h.2.2 d h1 h2⟩
theorem B0.C {n ln : Nat} {σ σ' τ : St} (h : B0 n ln σ τ) (f : fC σ σ') : B0 n ln σ' τ := by
  unfold B0 Bk Rk Mk Lk Ll at h ⊢
  rw [f 1 (by decide), f 3 (by decide), f 7 (by decide), f 8 (by decide), f 9 (by decide), f 10 (by decide), f 11 (by decide), f 12 (by decide), f 14 (by decide), f 15 (by decide), f 16 (by decide), f 17 (by decide), f 18 (by decide), f 19 (by decide), f 20 (by decide)]
  exact h
theorem B0.M {n ln : Nat} {σ τ τ' : St} (h : B0 n ln σ τ) (f : fM τ τ') : B0 n ln σ τ' := by
  unfold B0 Bk Rk Mk Lk Ll at h ⊢
  rw [f.1, f.2.1, f.2.2 1 (by decide) (by decide), f.2.2 2 (by decide) (by decide), f.2.2 3 (by decide) (by decide), f.2.2 4 (by decide) (by decide), f.2.2 5 (by decide) (by decide), f.2.2 6 (by decide) (by decide), f.2.2 8 (by decide) (by decide), f.2.2 9 (by decide) (by decide), f.2.2 10 (by decide) (by decide), f.2.2 11 (by decide) (by decide), f.2.2 12 (by decide) (by decide), f.2.2 13 (by decide) (by decide), f.2.2 14 (by decide) (by decide)]
  exact h
/-! the tests of numbers -/
theorem below_ok (x : Int32) (n : Nat) (hn : n < 2 ^ 31) : f_X6_isBelow x (nI n) = some (if x < 0 ∨ nI n ≤ x then 0 else 1) := by
  unfold f_X6_isBelow
  by_cases h1 : x < 0 <;> by_cases h2 : nI n ≤ x <;> simp [h1, h2, gb0, gb1]
theorem within_ok (v a b : Int32) : f_X7_within v a b = some (if a ≤ v ∧ v ≤ b then 1 else 0) := by
  unfold f_X7_within
  by_cases h1 : v < a <;> by_cases h2 : b < v <;> simp [h1, h2, gb0, gb1, Int32.not_le, Int32.not_lt, Int32.le_of_lt] <;> first | (intro h; exact absurd h (Int32.not_le.mpr h1)) | (exact ⟨Int32.not_lt.mp h1, Int32.not_lt.mp h2⟩) | (intro _; exact h2) | skip
