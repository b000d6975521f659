/-! stories and their own blocks -/
theorem nd_inj {l : List Nat} (h : l.Nodup) {i j x : Nat} (hi : l[i]? = some x) (hj : l[j]? = some x) : i = j := by
  have hi1 := (List.getElem?_eq_some_iff.mp hi)
  have hj1 := (List.getElem?_eq_some_iff.mp hj)
  obtain ⟨hi2, hi3⟩ := hi1
  obtain ⟨hj2, hj3⟩ := hj1
  have hp := List.pairwise_iff_getElem.mp h
  rcases Nat.lt_trichotomy i j with q | q | q
  · exact absurd (hi3.trans hj3.symm) (hp i j hi2 hj2 q)
  · exact q
  · exact absurd (hj3.trans hi3.symm) (hp j i hj2 hi2 q)
theorem RT_get {f : Nat → Int32} {n s b : Nat} (h : (RT f n)[s]? = some b) : b < n ∧ f b = nI b ∧ s = (RT f b).length := by
  have hm := (RT_mem f n b).mp (List.mem_of_getElem? h)
  exact ⟨hm.1, hm.2, nd_inj (RT_nodup f n) h (RT_at f n b hm.1 hm.2)⟩
theorem sto_iff {f : Nat → Int32} {n s b k : Nat} (hn : n ≤ 24) (hr : rooted n f) (hk : k < n) (h : (RT f n)[s]? = some b) : sto f k = nI s ↔ f k = nI b := by
  obtain ⟨hb, fb, rfl⟩ := RT_get h
  have hl := RT_len f b
  rcases hr k hk with q | ⟨c, hc, q, qc⟩
  · unfold sto
    rw [q, if_pos rfl]
    exact ⟨fun e => absurd e (ne9_nI (by omega)), fun e => absurd e (ne9_nI (by omega))⟩
  · have hl2 := RT_len f c
    rw [sto_r (by omega) q, q, nI_eq (by omega) (by omega), nI_eq (by omega) (by omega)]
    constructor
    · intro e
      have h1 := RT_at f n c hc qc
      rw [e, h] at h1
      exact (Option.some.inj h1).symm
    · intro e; rw [e]
theorem sto_rng {f : Nat → Int32} {n k : Nat} (hn : n ≤ 24) (hr : rooted n f) (hk : k < n) (q : f k ≠ -9) : ∃ s b, (RT f n)[s]? = some b ∧ s < (RT f n).length ∧ sto f k = nI s ∧ f k = nI b := by
  obtain ⟨b, hb, h1, h2⟩ := (hr k hk).resolve_left q
  have h3 := RT_at f n b hb h2
  exact ⟨_, b, h3, (List.getElem?_eq_some_iff.mp h3).1, sto_r (by omega) h1, h1⟩
theorem fl_sto {f : Nat → Int32} {n s b : Nat} {S : List Nat} (hn : n ≤ 24) (hr : rooted n f) (hS : ∀ j ∈ S, j < n) (h : (RT f n)[s]? = some b) : S.filter (fun k => decide (sto f k = nI s)) = fl f b S := by
  unfold fl
  refine List.filter_congr (fun k hk => ?_)
  rw [decide_eq_decide]
  exact sto_iff hn hr (hS k hk) h
theorem nI_20 (k : Nat) : (2 : Int32) * nI k + 0 = nI (2 * k) := by
  rw [show (2 : Int32) = nI 2 from rfl, show (0 : Int32) = nI 0 from rfl, pk_mul, nI_add, Nat.add_zero]
theorem nI_2 (k : Nat) : (2 : Int32) * nI k = nI (2 * k) := by
  rw [show (2 : Int32) = nI 2 from rfl, pk_mul]
theorem nI_21 (k : Nat) : (2 : Int32) * nI k + 1 = nI (2 * k + 1) := by
  rw [nI_2, nI_1]
theorem hasM (σ : St) (k w : Nat) (hk : k < 24) (hw : w < 2) : f_X3_has (nI k) (nI w) σ = some (if σ 14 (2 * k + w) = -9 then 0 else 1) := by
  unfold f_X3_has f_X3_pageOf
  rw [nI_2, nI_add, ld48 (by omega), bi_ok, gb0, gb1]
  by_cases q : σ 14 (2 * k + w) = -9
  · rw [if_pos q, if_pos q]
  · rw [if_neg q, if_neg q]
/-! the mark by which a story goes on -/
def stepC (σ : St) (f : Nat → Int32) (s : Nat) (a : Int32) (k : Nat) : Int32 := if sto f k = nI s ∧ σ 14 (2 * k) ≠ -9 then nI k else a
def stepM (σ : St) (a : Int32) (k : Nat) : Int32 := if σ 14 (2 * k) = -9 then a else nI k
theorem drop_get {S : List Nat} {i : Nat} (h : i < S.length) : S.drop i = S[i] :: S.drop (i + 1) := List.drop_eq_getElem_cons h
theorem p_onC {n : Nat} {σ : St} {S : List Nat} {f : Nat → Int32} (hn : n ≤ 24) (hS : ∀ j ∈ S, j < n) (h1 : ∀ j, j < n → σ 24 j = sto f j) (ht : σ 5 10 = nI S.length) (hr : rep (σ 26) 0 S) (hl : S.length ≤ 24) (s : Nat) : ∀ (d i g : Nat) (a : Int32), i + d = S.length → d < g → f_X0_lastOnward_L5 σ g (nI s) a (nI i) = some ((S.drop i).foldl (stepC σ f s) a) := by
  intro d
  induction d with
  | zero =>
    intro i g a hi hg
    obtain ⟨g, rfl⟩ : ∃ z, g = z + 1 := ⟨g - 1, by omega⟩
    rw [f_X0_lastOnward_L5, lf_ok, ht, if_pos (nI_le (by omega) (by omega)), List.drop_eq_nil_of_le (by omega)]
    rfl
  | succ d ih =>
    intro i g a hi hg
    obtain ⟨g, rfl⟩ : ∃ z, g = z + 1 := ⟨g - 1, by omega⟩
    have hlt : i < S.length := by omega
    have hv : σ 26 i = nI S[i] := by have := hr i _ (List.getElem?_eq_getElem hlt); rwa [Nat.zero_add] at this
    have hkn : S[i] < n := hS _ (List.getElem_mem hlt)
    rw [drop_get hlt, List.foldl_cons, ← ih (i + 1) g _ (by omega) (by omega), f_X0_lastOnward_L5]
    have hm := hasM σ S[i] 0 (by omega) (by decide)
    rw [← nI_lit0, Nat.add_zero] at hm
    simp only [lf_ok, ht, if_neg (nle_of hlt (show S.length < 2 ^ 31 by omega)), ld24 (show i < 24 by omega), hv, ld24 (show S[i] < 24 by omega), h1 _ hkn, hm, bi_ok, nI_1]
    unfold stepC
    by_cases q1 : sto f S[i] = nI s
    · rw [if_pos q1]
      by_cases q2 : σ 14 (2 * S[i]) = -9
      · rw [if_pos q2, if_pos rfl, if_neg (fun z => z.2 q2)]
      · rw [if_neg q2, if_neg (by decide), if_pos ⟨q1, q2⟩]
    · rw [if_neg q1, if_neg (fun z => q1 z.1)]
theorem p_onM {n ln : Nat} {σ τ : St} (h : B0 n ln σ τ) {L : List Nat} {b : Nat} (hb : b < n) (hS : ∀ j ∈ L, j < n) (ht : τ 18 b = nI L.length) (hr : rep (τ 19) (24 * b) L) (hl : L.length ≤ 24) : ∀ (d i g : Nat) (a : Int32), i + d = L.length → d < g → f_X7_onwardOf_L13 τ g a (nI b) (nI i) = some ((L.drop i).foldl (stepM σ) a) := by
  have hn := h.1
  intro d
  induction d with
  | zero =>
    intro i g a hi hg
    obtain ⟨g, rfl⟩ : ∃ z, g = z + 1 := ⟨g - 1, by omega⟩
    rw [f_X7_onwardOf_L13, ld24 (by omega), ht, if_pos (nI_le (by omega) (by omega)), List.drop_eq_nil_of_le (by omega)]
    rfl
  | succ d ih =>
    intro i g a hi hg
    obtain ⟨g, rfl⟩ : ∃ z, g = z + 1 := ⟨g - 1, by omega⟩
    have hlt : i < L.length := by omega
    have hv : τ 19 (24 * b + i) = nI L[i] := hr i _ (List.getElem?_eq_getElem hlt)
    have hkn : L[i] < n := hS _ (List.getElem_mem hlt)
    have hmk := (h.2.2.2.2.2.2.2.2.1 L[i] hkn).1.1
    rw [drop_get hlt, List.foldl_cons, ← ih (i + 1) g _ (by omega) (by omega), f_X7_onwardOf_L13]
    simp only [ld24 (show b < 24 by omega), ht, if_neg (nle_of hlt (show L.length < 2 ^ 31 by omega)), nI_24, ld576 (show 24 * b + i < 576 by omega), hv, nI_2, ld48 (show 2 * L[i] < 48 by omega), hmk, nI_1]
    unfold stepM
    by_cases q2 : σ 14 (2 * L[i]) = -9
    · rw [if_pos q2, if_pos q2]
    · rw [if_neg q2, if_neg q2]
/-- the text by whose mark a story goes on -/
def onw (σ : St) (f : Nat → Int32) (S : List Nat) (b : Nat) : Int32 := (fl f b S).foldl (stepM σ) (-9)
theorem onw_rng (σ : St) : ∀ (L : List Nat) (a : Int32), (a = -9 ∨ ∃ k, σ 14 (2 * k) ≠ -9 ∧ a = nI k ∧ True) → (L.foldl (stepM σ) a = a ∨ ∃ k ∈ L, σ 14 (2 * k) ≠ -9 ∧ L.foldl (stepM σ) a = nI k) := by
  intro L
  induction L with
  | nil => intro a _; exact Or.inl rfl
  | cons k L ih =>
    intro a ha
    rw [List.foldl_cons]
    by_cases q : σ 14 (2 * k) = -9
    · have e : stepM σ a k = a := by unfold stepM; rw [if_pos q]
      rw [e]
      rcases ih a ha with z | ⟨j, z1, z2⟩
      · exact Or.inl z
      · exact Or.inr ⟨j, List.mem_cons_of_mem _ z1, z2⟩
    · have e : stepM σ a k = nI k := by unfold stepM; rw [if_neg q]
      rw [e]
      rcases ih (nI k) (Or.inr ⟨k, q, rfl, trivial⟩) with z | ⟨j, z1, z2⟩
      · exact Or.inr ⟨k, List.mem_cons_self, q, z⟩
      · exact Or.inr ⟨j, List.mem_cons_of_mem _ z1, z2⟩
theorem foldC {σ : St} {f : Nat → Int32} {n s b : Nat} {S : List Nat} (hn : n ≤ 24) (hr : rooted n f) (hS : ∀ j ∈ S, j < n) (h : (RT f n)[s]? = some b) : S.foldl (stepC σ f s) (-9) = onw σ f S b := by
  unfold onw
  rw [← fl_sto hn hr hS h, List.foldl_filter]
  congr 1
  funext a k
  unfold stepC stepM
  by_cases q1 : sto f k = nI s <;> by_cases q2 : σ 14 (2 * k) = -9 <;> simp [q1, q2]
/-! the aim of a mark -/
set_option maxHeartbeats 1000000 in
theorem p_aimL {n ln : Nat} {σ τ : St} (h : B0 n ln σ τ) (hs : ∀ j, j < n → τ 21 j = σ 24 j) (k : Nat) (hk : k < n) (hm : σ 14 (2 * k) ≠ -9) : ∀ (d i g : Nat), i + d = n → d < g → ∃ r : Int32, (r = -9 ∨ ∃ j, j < n ∧ σ 8 j ≠ 2 ∧ r = σ 24 j) ∧ f_X0_aimOf_L23 σ g (nI k) (σ 14 (2 * k)) (σ 15 (2 * k)) (nI i) = some r ∧ f_X7_aimBy_L2 τ g (nI k) (nI i) = some r := by
  obtain ⟨hn, hln, c1, c2, c3, c4, hB, hR, hM, hL⟩ := h
  have hk24 : k < 24 := by omega
  have kB := (hB k hk).1
  have kM := (hM k hk).1
  obtain ⟨pk, -, -, -, -, -, hp4, -, -, -, -, -, gk, -⟩ := hR k hk
  intro d
  induction d with
  | zero =>
    intro i g hi hg
    obtain ⟨g, rfl⟩ : ∃ z, g = z + 1 := ⟨g - 1, by omega⟩
    refine ⟨-9, Or.inl rfl, ?_, ?_⟩
    · rw [f_X0_aimOf_L23, lf_ok, c1, if_pos (nI_le (by omega) (by omega))]
    · rw [f_X7_aimBy_L2, lf_ok, c2, if_pos (nI_le (by omega) (by omega))]
  | succ d ih =>
    intro i g hi hg
    obtain ⟨g, rfl⟩ : ∃ z, g = z + 1 := ⟨g - 1, by omega⟩
    have hi1 : i < n := by omega
    have hi24 : i < 24 := by omega
    obtain ⟨l1, l2, -⟩ := hB i hi1
    obtain ⟨-, iM, iP⟩ := hM i hi1
    obtain ⟨r, hr, r1, r2⟩ := ih (i + 1) g (by omega) (by omega)
    rw [f_X0_aimOf_L23, f_X7_aimBy_L2]
    simp only [lf_ok, c1, c2, if_neg (nle_of hi1 (show n < 2 ^ 31 by omega)), f_X3_pageOf, f_X3_wordOf, nI_21, nI_2, ld48 (show 2 * i + 1 < 48 by omega), ld48 (show 2 * k < 48 by omega), bi_ok, ld24 hk24, ld24 hi24, f_X0_aimOf_B75, f_X0_aimOf_B76, f_X7_aimBy_B60, f_X7_aimBy_B61, l1, l2, iM.1, kM.1, kB, hs i hi1, nI_1, o10, eq_self, if_true, if_false, reduceIte]
    by_cases q1 : σ 14 (2 * i + 1) = σ 7 k
    · have q9 : σ 14 (2 * i + 1) ≠ -9 := by rw [q1, gk]; exact nI_ne9 (by omega)
      have q2 : ¬ σ 8 i = 2 := fun z => q9 (iP z).2
      rw [iM.2.2 q9, kM.2.2 hm]
      by_cases q3 : σ 7 i = σ 14 (2 * k) <;> by_cases q4 : σ 15 (2 * i + 1) = σ 15 (2 * k) <;>
        simp only [q1, q2, q3, q4, if_true, if_false, reduceIte, o10, eq_self] <;> first | exact ⟨r, hr, r1, r2⟩ | exact ⟨_, Or.inr ⟨i, hi1, q2, rfl⟩, rfl, rfl⟩
    · by_cases q2 : σ 8 i = 2 <;> by_cases q3 : σ 7 i = σ 14 (2 * k) <;>
        simp only [q1, q2, q3, if_true, if_false, reduceIte, o10, eq_self] <;> exact ⟨r, hr, r1, r2⟩
theorem p_aim {n ln : Nat} {σ τ : St} (h : B0 n ln σ τ) (hs : ∀ j, j < n → τ 21 j = σ 24 j) (k : Nat) (hk : k < n) (hm : σ 14 (2 * k) ≠ -9) : ∃ r : Int32, (r = -9 ∨ ∃ j, j < n ∧ σ 8 j ≠ 2 ∧ r = σ 24 j) ∧ f_X0_aimOf (nI k) σ = some r ∧ f_X7_aimBy (nI k) τ = some r := by
  have hn := h.1
  obtain ⟨r, hr, r1, r2⟩ := p_aimL h hs k hk hm n 0 64 (by omega) (by omega)
  refine ⟨r, hr, ?_, r2⟩
  unfold f_X0_aimOf f_X3_pageOf f_X3_wordOf
  rw [nI_20, ld48 (by omega), ld48 (by omega), bi_ok, bi_ok]
  exact r1
