/-! what is in an article: by the class's blocks, by the reference's stories -/
def arof (σ : St) (k : Nat) : Int32 := σ 30 (σ 24 k).toNatClampNeg
theorem p_in {n ln : Nat} {σ τ : St} {S : List Nat} {f : Nat → Int32} (h : B0 n ln σ τ) (hD : D1 n σ τ S f) (r : Int32) {k : Nat} (hk : k < n) : f_X0_isReadIn r (nI k) σ = some (if σ 8 k ≠ 2 ∧ arof σ k = r then 1 else 0) := by
  have hn := h.1
  have hmn := RT_len f n
  unfold f_X0_isReadIn
  simp only [ld24 (show k < 24 by omega), gb0, gb1]
  by_cases q : σ 8 k = 2
  · rw [if_pos q, if_neg (fun z => z.1 q)]
  · rw [if_neg q]
    obtain ⟨s, b, s1, s2, s3, s4⟩ := sto_rng hn hD.1 hk ((hD.2.1 k hk).2.2.2.2.2.1 q)
    have e24 : σ 24 k = nI s := by rw [(hD.2.1 k hk).2.2.2.1]; exact s3
    have ea : arof σ k = σ 30 s := by unfold arof; rw [e24, nI_clamp (by omega)]
    rw [ea, e24, if_neg (nI_ne9 (by omega)), ld24 (by omega)]
    by_cases q2 : σ 30 s = r
    · rw [if_pos q2, if_pos ⟨q, q2⟩]
    · rw [if_neg q2, if_neg (fun z => q2 z.2)]
theorem p_at1 {n ln : Nat} {σ τ : St} {S : List Nat} {f : Nat → Int32} (h : B0 n ln σ τ) (hD : D1 n σ τ S f) (r : Int32) : ∀ (d k g : Nat) (a : Int32), k + d = n → d < g → f_X0_textsOf_L4 σ g r a (nI k) = some (a + sm (fun _ => 1) ((rl k d).filter (fun k => decide (σ 8 k = 1 ∧ arof σ k = r)))) := by
  have hn := h.1
  have c1 := h.2.2.1
  intro d
  induction d with
  | zero =>
    intro k g a hk hg
    obtain ⟨g, rfl⟩ : ∃ z, g = z + 1 := ⟨g - 1, by omega⟩
    rw [f_X0_textsOf_L4, lf_ok, c1, if_pos (nI_le (by omega) (by omega)), rl, List.filter_nil, sm, Int32.add_zero]
  | succ d ih =>
    intro k g a hk hg
    obtain ⟨g, rfl⟩ : ∃ z, g = z + 1 := ⟨g - 1, by omega⟩
    have hk1 : k < n := by omega
    rw [sum_step, ← ih (k + 1) g _ (by omega) (by omega), f_X0_textsOf_L4]
    simp only [lf_ok, c1, if_neg (nle_of hk1 (show n < 2 ^ 31 by omega)), ld24 (show k < 24 by omega), p_in h hD r hk1, bi_ok, nI_1]
    by_cases q : σ 8 k = 1
    · rw [if_pos q]
      have q2 : σ 8 k ≠ 2 := fun z => absurd (z.symm.trans q) (by decide)
      by_cases q3 : arof σ k = r
      · rw [if_pos (⟨q2, q3⟩ : σ 8 k ≠ 2 ∧ arof σ k = r), if_neg (by decide), if_pos ⟨q, q3⟩]
      · rw [if_neg (fun z : σ 8 k ≠ 2 ∧ arof σ k = r => q3 z.2), if_pos rfl, if_neg (fun z => q3 z.2)]
    · rw [if_neg q, if_neg (fun z => q z.1)]
theorem p_aw1 {n ln : Nat} {σ τ : St} {S : List Nat} {f : Nat → Int32} (h : B0 n ln σ τ) (hD : D1 n σ τ S f) (r : Int32) : ∀ (d k g : Nat) (a : Int32), k + d = n → d < g → f_X0_wordsOf_L4 σ g r a (nI k) = some (a + sm (σ 13) ((rl k d).filter (fun k => decide (σ 8 k = 1 ∧ arof σ k = r)))) := by
  have hn := h.1
  have c1 := h.2.2.1
  intro d
  induction d with
  | zero =>
    intro k g a hk hg
    obtain ⟨g, rfl⟩ : ∃ z, g = z + 1 := ⟨g - 1, by omega⟩
    rw [f_X0_wordsOf_L4, lf_ok, c1, if_pos (nI_le (by omega) (by omega)), rl, List.filter_nil, sm, Int32.add_zero]
  | succ d ih =>
    intro k g a hk hg
    obtain ⟨g, rfl⟩ : ∃ z, g = z + 1 := ⟨g - 1, by omega⟩
    have hk1 : k < n := by omega
    rw [sum_step, ← ih (k + 1) g _ (by omega) (by omega), f_X0_wordsOf_L4]
    simp only [lf_ok, c1, if_neg (nle_of hk1 (show n < 2 ^ 31 by omega)), ld24 (show k < 24 by omega), p_in h hD r hk1, bi_ok, nI_1]
    by_cases q : σ 8 k = 1
    · rw [if_pos q]
      have q2 : σ 8 k ≠ 2 := fun z => absurd (z.symm.trans q) (by decide)
      by_cases q3 : arof σ k = r
      · rw [if_pos (⟨q2, q3⟩ : σ 8 k ≠ 2 ∧ arof σ k = r), if_neg (by decide), if_pos ⟨q, q3⟩]
      · rw [if_neg (fun z : σ 8 k ≠ 2 ∧ arof σ k = r => q3 z.2), if_pos rfl, if_neg (fun z => q3 z.2)]
    · rw [if_neg q, if_neg (fun z => q z.1)]
/-- the texts of stories, one story behind another -/
def rb (f : Nat → Int32) (n s : Nat) : Nat := (RT f n).getD s 0
def gl (f : Nat → Int32) (n : Nat) (S : List Nat) : List Nat → List Nat
  | [] => []
  | s :: l => fl f (rb f n s) S ++ gl f n S l
theorem rb_at {f : Nat → Int32} {n s : Nat} (h : s < (RT f n).length) : (RT f n)[s]? = some (rb f n s) := by
  unfold rb
  rw [List.getD_eq_getElem?_getD, List.getElem?_eq_getElem h]; rfl
theorem gl_mem {f : Nat → Int32} {n : Nat} {S : List Nat} (hn : n ≤ 24) (hr : rooted n f) (hS : ∀ j ∈ S, j < n) (k : Nat) : ∀ l : List Nat, (∀ s ∈ l, s < (RT f n).length) → (k ∈ gl f n S l ↔ k ∈ S ∧ ∃ s ∈ l, sto f k = nI s) := by
  intro l
  induction l with
  | nil => intro _; simp [gl]
  | cons s l ih =>
    intro hl
    rw [gl, List.mem_append, ih (fun t ht => hl t (List.mem_cons_of_mem _ ht)), ← fl_sto hn hr hS (rb_at (hl s List.mem_cons_self)), List.mem_filter]
    constructor
    · rintro (⟨h1, h2⟩ | ⟨h1, t, h2, h3⟩)
      · exact ⟨h1, s, List.mem_cons_self, by simpa using h2⟩
      · exact ⟨h1, t, List.mem_cons_of_mem _ h2, h3⟩
    · rintro ⟨h1, t, h2, h3⟩
      rcases List.mem_cons.mp h2 with e | e
      · subst e; exact Or.inl ⟨h1, by simpa using h3⟩
      · exact Or.inr ⟨h1, t, e, h3⟩
theorem gl_nodup {f : Nat → Int32} {n : Nat} {S : List Nat} (hn : n ≤ 24) (hr : rooted n f) (hS : ∀ j ∈ S, j < n) (hnd : S.Nodup) : ∀ l : List Nat, (∀ s ∈ l, s < (RT f n).length) → l.Nodup → (gl f n S l).Nodup := by
  have hmn := RT_len f n
  intro l
  induction l with
  | nil => intro _ _; simp [gl]
  | cons s l ih =>
    intro hl hn2
    have hn3 := List.nodup_cons.mp hn2
    have hl' : ∀ t ∈ l, t < (RT f n).length := fun t ht => hl t (List.mem_cons_of_mem _ ht)
    rw [gl, List.nodup_append]
    refine ⟨List.Pairwise.filter _ hnd, ih hl' hn3.2, fun a ha b hb e => ?_⟩
    subst e
    rw [← fl_sto hn hr hS (rb_at (hl s List.mem_cons_self)), List.mem_filter] at ha
    obtain ⟨-, t, t1, t2⟩ := (gl_mem hn hr hS a l hl').mp hb
    have h1 : sto f a = nI s := by simpa using ha.2
    have : s = t := (nI_eq (by have := hl s List.mem_cons_self; omega) (by have := hl' t t1; omega)).mp (h1.symm.trans t2)
    subst this
    exact hn3.1 t1
theorem gl_eq {n ln : Nat} {σ τ : St} {S : List Nat} {f : Nat → Int32} {AR : List (List Nat)} {on : Nat → Int32} (h : B0 n ln σ τ) (hD : D1 n σ τ S f) (hE : D2 (RT f n).length AR on σ τ) {r : Nat} {l : List Nat} (hr : AR[r]? = some l) (w : Nat → Int32) : sm w (gl f n S l) = sm w ((rl 0 n).filter (fun k => decide (σ 8 k = 1 ∧ arof σ k = nI r))) := by
  have hn := h.1
  have hmn := RT_len f n
  have hS : ∀ j ∈ S, j < n := fun j hj => ((hD.2.2.2.1 j).mp hj).1
  have hlm : ∀ s ∈ l, s < (RT f n).length := fun s hs => hE.1.2.1 s (List.mem_flatten.mpr ⟨l, List.mem_of_getElem? hr, hs⟩)
  have hlnd : l.Nodup := by
    have h1 := hE.1.1
    have h2 : AR.flatten = (AR.take r).flatten ++ (l ++ (AR.drop (r + 1)).flatten) := by
      have hlt := (List.getElem?_eq_some_iff.mp hr)
      obtain ⟨hlt, he⟩ := hlt
      conv => lhs; rw [← List.take_append_drop r AR, List.drop_eq_getElem_cons hlt, he]
      simp
    rw [h2] at h1
    exact (List.nodup_append.mp (List.nodup_append.mp h1).2.1).1
  have hrl : r < 24 := by
    have h1 := (List.getElem?_eq_some_iff.mp hr).1
    have h2 := E_ar hE.1
    have h3 := E_len hE.1
    omega
  refine sm_eq w _ _ (gl_nodup hn hD.1 hS hD.2.2.1 l hlm hlnd) (List.Pairwise.filter _ (rl_nodup n 0)) (fun k => ?_)
  rw [gl_mem hn hD.1 hS k l hlm, List.mem_filter, rl_mem]
  have core : k < n → σ 8 k = 1 → ((∃ s ∈ l, sto f k = nI s) ↔ arof σ k = nI r) := by
    intro hk k1
    have k2 : σ 8 k ≠ 2 := fun z => absurd (z.symm.trans k1) (by decide)
    obtain ⟨s, b, s1, s2, s3, s4⟩ := sto_rng hn hD.1 hk ((hD.2.1 k hk).2.2.2.2.2.1 k2)
    have e24 : σ 24 k = nI s := by rw [(hD.2.1 k hk).2.2.2.1]; exact s3
    have ea : arof σ k = σ 30 s := by unfold arof; rw [e24, nI_clamp (by omega)]
    rw [ea]
    constructor
    · rintro ⟨t, t1, t2⟩
      have : s = t := (nI_eq (by omega) (by have := hlm t t1; omega)).mp (s3.symm.trans t2)
      subst this
      exact (hE.1.2.2.2.2.2.2.2 r l hr).2.2.2.2.2 s t1
    · intro e
      obtain ⟨l', hl', hsl⟩ := List.mem_flatten.mp (hE.2.1 s s2)
      obtain ⟨r', hr'⟩ := List.getElem?_of_mem hl'
      have e' := (hE.1.2.2.2.2.2.2.2 r' l' hr').2.2.2.2.2 s hsl
      have hr'l : r' < 24 := by
        have h1 := (List.getElem?_eq_some_iff.mp hr').1
        have h2 := E_ar hE.1
        have h3 := E_len hE.1
        omega
      have : r = r' := (nI_eq (by omega) (by omega)).mp (e.symm.trans e')
      subst this
      rw [hr] at hr'
      rw [Option.some.inj hr']
      exact ⟨s, hsl, s3⟩
  constructor
  · rintro ⟨h1, h2⟩
    obtain ⟨hk, k1⟩ := (hD.2.2.2.1 k).mp h1
    exact ⟨⟨Nat.zero_le _, by omega⟩, by simpa using ⟨k1, (core hk k1).mp h2⟩⟩
  · rintro ⟨⟨-, h1⟩, h2⟩
    have h2' : σ 8 k = 1 ∧ arof σ k = nI r := by simpa using h2
    have hk : k < n := by omega
    exact ⟨(hD.2.2.2.1 k).mpr ⟨hk, h2'.1⟩, (core hk h2'.1).mpr h2'.2⟩
/-- the reference's sum -/
theorem p_sum {n ln : Nat} {σ τ : St} {S : List Nat} {f : Nat → Int32} {AR : List (List Nat)} {on : Nat → Int32} (h : B0 n ln σ τ) (hW : Wd n σ τ) (hD : D1 n σ τ S f) (hE : D2 (RT f n).length AR on σ τ) {r : Nat} {l : List Nat} (hr : AR[r]? = some l) (z : Int32) (w : Nat → Int32) (hw : (z = 0 ∧ w = fun _ => 1) ∨ (z = 1 ∧ w = σ 13)) : ∀ (d i g : Nat) (a : Int32), i + d = l.length → d < g → f_X7_sumOf_L10 τ g (nI r) z a (nI (off AR r + i)) = some (a + sm w (gl f n S (l.drop i))) := by
  have hn := h.1
  have hmn := RT_len f n
  have h1 := (List.getElem?_eq_some_iff.mp hr).1
  have h2 := E_ar hE.1
  have h3 := E_len hE.1
  have h4 := off_s hr
  have h5 := off_le AR (r + 1)
  have hne : AR ≠ [] := fun e => by rw [e] at h1; simp at h1
  have e26 : τ 26 (r + 1) = nI (off AR r + l.length) := by rw [hE.1.2.2.2.2.2.2.1 (r + 1) (by omega) hne, h4]
  intro d
  induction d with
  | zero =>
    intro i g a hi hg
    obtain ⟨g, rfl⟩ : ∃ z, g = z + 1 := ⟨g - 1, by omega⟩
    rw [f_X7_sumOf_L10, nI_1, ld25 (by omega), e26, if_pos (nI_le (by omega) (by omega)), List.drop_eq_nil_of_le (by omega), gl, sm, Int32.add_zero]
  | succ d ih =>
    intro i g a hi hg
    obtain ⟨g, rfl⟩ : ∃ z, g = z + 1 := ⟨g - 1, by omega⟩
    have hlt : i < l.length := by omega
    have hv : τ 28 (off AR r + i) = nI l[i] := (hE.1.2.2.2.2.2.2.2 r l hr).2.2.2.1 i _ (List.getElem?_eq_getElem hlt)
    have hsm : l[i] < (RT f n).length := hE.1.2.1 _ (List.mem_flatten.mpr ⟨l, List.mem_of_getElem? hr, List.getElem_mem hlt⟩)
    have hb0 := rb_at hsm
    obtain ⟨x1, x2, x3, x4, x5⟩ := q_txt h hW hD hb0
    obtain ⟨hbn, fb, es⟩ := RT_get hb0
    have hv20 : τ 20 l[i] = nI (rb f n l[i]) := by have := hD.2.2.2.2.2.2.2.2.2.1 l[i] _ hb0; rwa [Nat.zero_add] at this
    rw [drop_get hlt, gl, sm_app, ← Int32.add_assoc, ← ih (i + 1) g _ (by omega) (by omega), f_X7_sumOf_L10]
    simp only [nI_1, ld25 (show r + 1 < 25 by omega), e26, if_neg (nle_of (show off AR r + i < off AR r + l.length by omega) (show off AR r + l.length < 2 ^ 31 by omega)), ld24 (show off AR r + i < 24 by omega), hv, ld24 (show l[i] < 24 by omega), hv20, ld24 (show rb f n l[i] < 24 by omega), x2, x4, bi_ok, show off AR r + i + 1 = off AR r + (i + 1) by omega]
    rcases hw with ⟨e1, e2⟩ | ⟨e1, e2⟩
    · rw [if_pos e1, e2, sm_one]
    · rw [if_neg (by rw [e1]; decide), e2]
/-! pages, and reading -/
set_option maxHeartbeats 1000000 in
theorem p_pgL {n ln : Nat} {σ τ : St} {S : List Nat} {f : Nat → Int32} {m : Nat} (h : B0 n ln σ τ) (hD : D1 n σ τ S f) (hm : m = (RT f n).length) (h29 : ∀ s, s < m → τ 29 s = σ 30 s) (r : Int32) : ∀ (d k g : Nat) (a : Int32), k + d = n → d < g → ∃ z : Int32, f_X0_pagesOf_L4 σ g r a (nI k) = some z ∧ f_X7_pagesOf_L4 τ g r a (nI k) = some z := by
  have hB := h
  have hmn := RT_len f n
  obtain ⟨hn, hln, c1, c2, c3, c4, hBk, -⟩ := h
  intro d
  induction d with
  | zero =>
    intro k g a hk hg
    obtain ⟨g, rfl⟩ : ∃ z, g = z + 1 := ⟨g - 1, by omega⟩
    refine ⟨a, ?_, ?_⟩
    · rw [f_X0_pagesOf_L4, lf_ok, c1, if_pos (nI_le (by omega) (by omega))]
    · rw [f_X7_pagesOf_L4, lf_ok, c2, if_pos (nI_le (by omega) (by omega))]
  | succ d ih =>
    intro k g a hk hg
    obtain ⟨g, rfl⟩ : ∃ z, g = z + 1 := ⟨g - 1, by omega⟩
    have hk1 : k < n := by omega
    have hk24 : k < 24 := by omega
    rw [f_X0_pagesOf_L4, f_X7_pagesOf_L4]
    simp only [lf_ok, c1, c2, if_neg (nle_of hk1 (show n < 2 ^ 31 by omega)), ld24 hk24, p_in hB hD r hk1, bi_ok, (hBk k hk1).1, (hBk k hk1).2.1, f_X7_pagesOf_B41, f_X7_pagesOf_B42, nI_1, o10, eq_self, if_true, if_false, reduceIte, Int32.or_zero]
    have i1 := ih (k + 1) g a (by omega) (by omega)
    by_cases q : σ 8 k = 2
    · rw [if_pos q, if_neg (fun z : σ 8 k ≠ 2 ∧ arof σ k = r => z.1 q), if_pos rfl]; exact i1
    · rw [if_neg q]
      obtain ⟨s, b, s1, s2, s3, s4⟩ := sto_rng hn hD.1 hk1 ((hD.2.1 k hk1).2.2.2.2.2.1 q)
      have e24 : σ 24 k = nI s := by rw [(hD.2.1 k hk1).2.2.2.1]; exact s3
      have e21 : τ 21 k = nI s := by rw [(hD.2.1 k hk1).2.2.2.2.1]; exact s3
      have ea : arof σ k = σ 30 s := by unfold arof; rw [e24, nI_clamp (by omega)]
      rw [e21, ld24 (by omega), h29 s (by omega), ea]
      by_cases q2 : σ 30 s = r
      · rw [if_pos (⟨q, q2⟩ : σ 8 k ≠ 2 ∧ σ 30 s = r), if_neg (by decide), if_pos q2]
        exact ih (k + 1) g _ (by omega) (by omega)
      · rw [if_neg (fun z : σ 8 k ≠ 2 ∧ σ 30 s = r => q2 z.2), if_pos rfl, if_neg q2]; exact i1
theorem ox9 {o : Option Nat} (h : ∀ x, o = some x → x < 2 ^ 31) : ox o = -9 ↔ o = none := by
  cases o with
  | none => exact ⟨fun _ => rfl, fun _ => rfl⟩
  | some x => exact ⟨fun e => absurd e (nI_ne9 (h x rfl)), fun e => by cases e⟩
set_option maxHeartbeats 1000000 in
theorem p_rd {n ln : Nat} {σ τ : St} {S : List Nat} {f : Nat → Int32} {AR : List (List Nat)} {on : Nat → Int32} (h : B0 n ln σ τ) (hW : Wd n σ τ) (hD : D1 n σ τ S f) (hE : D2 (RT f n).length AR on σ τ) {r : Nat} {l : List Nat} (hr : AR[r]? = some l) : ∀ (d j g i : Nat) (s : Int32), j + d = l.length → d < g → i < 24 → (∀ x, l[j]? = some x → s = nI x) → ∃ v : Int32, f_X0_blockAt_L13 σ g (nI r) (nI i) s (nI j) = some v ∧ f_X7_read_L33 g (nI r) (nI i) (nI (off AR r + j)) τ = some (v, τ) := by
  have hn := h.1
  have hmn := RT_len f n
  have h1 := (List.getElem?_eq_some_iff.mp hr).1
  have h2 := E_ar hE.1
  have h3 := E_len hE.1
  have h4 := off_s hr
  have h5 := off_le AR (r + 1)
  have hne : AR ≠ [] := fun e => by rw [e] at h1; simp at h1
  have e26 : τ 26 (r + 1) = nI (off AR r + l.length) := by rw [hE.1.2.2.2.2.2.2.1 (r + 1) (by omega) hne, h4]
  obtain ⟨⟨x0, t0, g1, g2, g3⟩, g4, g5, g6, g7, g8⟩ := hE.1.2.2.2.2.2.2.2 r l hr
  intro d
  induction d with
  | zero =>
    intro j g i s hj hg hi hs
    obtain ⟨g, rfl⟩ : ∃ z, g = z + 1 := ⟨g - 1, by omega⟩
    refine ⟨-9, ?_, ?_⟩
    · rw [f_X0_blockAt_L13, ld24 (by omega), g5, if_pos (nI_le (by omega) (by omega))]
    · rw [f_X7_read_L33, nI_1, ld25 (by omega), e26, if_pos (nI_le (by omega) (by omega))]
  | succ d ih =>
    intro j g i s hj hg hi hs
    obtain ⟨g, rfl⟩ : ∃ z, g = z + 1 := ⟨g - 1, by omega⟩
    have hlt : j < l.length := by omega
    have hs' := hs _ (List.getElem?_eq_getElem hlt)
    have hv : τ 28 (off AR r + j) = nI l[j] := g6 j _ (List.getElem?_eq_getElem hlt)
    have hsm : l[j] < (RT f n).length := hE.1.2.1 _ (List.mem_flatten.mpr ⟨l, List.mem_of_getElem? hr, List.getElem_mem hlt⟩)
    have hnx : ∀ x, l[j + 1]? = some x → σ 28 l[j] = nI x := fun x hx => g7 j _ x (List.getElem?_eq_getElem hlt) hx
    generalize l[j] = t at hs' hv hsm hnx
    subst hs'
    have hb0 := rb_at hsm
    obtain ⟨x1, x2, x3, x4, x5⟩ := q_txt h hW hD hb0
    obtain ⟨hbn, fb, es⟩ := RT_get hb0
    have hv20 : τ 20 t = nI (rb f n t) := by have := hD.2.2.2.2.2.2.2.2.2.1 t _ hb0; rwa [Nat.zero_add] at this
    have hv25 : σ 25 t = nI (rb f n t) := by have := hD.2.2.2.2.2.2.2.2.1 t _ hb0; rwa [Nat.zero_add] at this
    have hrep := (hD.2.2.2.2.2.2.2.2.2.2 _ hbn).2
    generalize rb f n t = b at hb0 x1 x2 x3 x4 x5 hbn fb es hv20 hv25 hrep
    have e8 := (h.2.2.2.2.2.2.1 b hbn).2.1
    have hl : (fl f b S).length ≤ 24 := Nat.le_trans (fl_len f b S) (hD.sc h).2.2.1
    have hh : f_X5_headOf (nI t) σ = some (if σ 8 b = 0 then nI b else -9) := by
      unfold f_X5_headOf
      simp only [ld24 (show t < 24 by omega), hv25, ld24 (show b < 24 by omega)]
      by_cases z : σ 8 b = 0
      · rw [if_pos z, if_pos z]
      · rw [if_neg z, if_neg z]
    -- the texts of the story, i' numbers ahead
    have body : ∀ i' : Nat, i' < 24 → ∃ v : Int32, f_X0_blockAt_B59 σ (f_X0_blockAt_L13 σ g) (nI r) (nI i') (nI t) (nI j) = some v ∧ (if nI (fl f b S).length ≤ nI i' then f_X7_read_L33 g (nI r) (nI i' - nI (fl f b S).length) (nI (off AR r + j + 1)) τ else some (τ 19 (24 * b + i'), τ)) = some (v, τ) := by
      intro i' hi'
      unfold f_X0_blockAt_B59
      rw [x5 i' (by omega), bi_ok]
      by_cases q : (fl f b S).length ≤ i'
      · rw [List.getElem?_eq_none q, if_pos (nI_le q (by omega)), if_pos (show ox none = -9 from rfl), x1, bi_ok, ld24 (by omega), pk_sub q, nI_1]
        obtain ⟨v, v1, v2⟩ := ih (j + 1) g (i' - (fl f b S).length) (σ 28 t) (by omega) (by omega) (by omega) hnx
        exact ⟨v, v1, v2⟩
      · have hlt2 : i' < (fl f b S).length := by omega
        have hmem : (fl f b S)[i'] < 24 := by
          have := (hD.2.2.2.1 _).mp (List.mem_filter.mp (List.getElem_mem hlt2)).1
          omega
        rw [List.getElem?_eq_getElem hlt2, if_neg (nle_of hlt2 (by omega)), if_neg (show ¬ ox (some (fl f b S)[i']) = -9 from nI_ne9 (by omega)), hrep i' _ (List.getElem?_eq_getElem hlt2)]
        exact ⟨_, rfl, rfl⟩
    rw [f_X0_blockAt_L13, f_X7_read_L33]
    simp only [ld24 (show r < 24 by omega), g5, if_neg (nle_of hlt (show l.length < 2 ^ 31 by omega)), if_neg (nI_ne9 (show t < 2 ^ 31 by omega)), hh, bi_ok, nI_1, ld25 (show r + 1 < 25 by omega), e26, if_neg (nle_of (show off AR r + j < off AR r + l.length by omega) (show off AR r + l.length < 2 ^ 31 by omega)), ld24 (show off AR r + j < 24 by omega), hv, ld24 (show t < 24 by omega), hv20, ld24 (show b < 24 by omega), e8, f_X7_read_B75, x2, Int32.sub_zero]
    by_cases z : σ 8 b = 0
    · simp only [if_pos z, if_neg (nI_ne9 (show b < 2 ^ 31 by omega))]
      rcases Nat.eq_zero_or_pos i with e | e
      · subst e
        rw [if_pos (show nI 0 = 0 from rfl), if_neg (by decide)]
        exact ⟨_, rfl, rfl⟩
      · obtain ⟨i', rfl⟩ : ∃ i', i = i' + 1 := ⟨i - 1, by omega⟩
        rw [if_neg (nI_ne0 (by omega) (by omega)), if_pos (show (1 : Int32) ≤ nI (i' + 1) from nI_le (show 1 ≤ i' + 1 by omega) (by omega)), pk_m1, nI_pred, nI_24, ld576 (by omega)]
        exact body i' (by omega)
    · simp only [if_neg z, if_true, reduceIte, eq_self]
      rw [if_pos (show (0 : Int32) ≤ nI i from nI_pos' (by omega)), nI_24, ld576 (by omega)]
      exact body i hi
