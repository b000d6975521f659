/-! articles: rows of stories -/
def off (AR : List (List Nat)) (r : Nat) : Nat := (AR.take r).flatten.length
theorem off_s {AR : List (List Nat)} {r : Nat} {l : List Nat} (h : AR[r]? = some l) : off AR (r + 1) = off AR r + l.length := by
  unfold off
  rw [List.take_succ, h]
  simp
theorem off_le (AR : List (List Nat)) (r : Nat) : off AR r ≤ AR.flatten.length := by
  unfold off
  have : AR.flatten = (AR.take r).flatten ++ (AR.drop r).flatten := by
    rw [← List.flatten_append, List.take_append_drop]
  rw [this, List.length_append]; omega
theorem off_all (AR : List (List Nat)) : off AR AR.length = AR.flatten.length := by unfold off; rw [List.take_length]
theorem off_app {AR : List (List Nat)} {l : List Nat} {r : Nat} (h : r ≤ AR.length) : off (AR ++ [l]) r = off AR r := by
  unfold off; rw [List.take_append_of_le_length h]
theorem app_get {AR : List (List Nat)} {c l : List Nat} {r : Nat} (h : (AR ++ [c])[r]? = some l) : (r < AR.length ∧ AR[r]? = some l) ∨ (r = AR.length ∧ l = c) := by
  by_cases q : r < AR.length
  · rw [List.getElem?_append_left q] at h; exact Or.inl ⟨q, h⟩
  · rw [List.getElem?_append_right (by omega)] at h
    have : r - AR.length = 0 := by
      rcases Nat.eq_zero_or_pos (r - AR.length) with z | z
      · exact z
      · rw [List.getElem?_eq_none (by simp; omega)] at h; cases h
    rw [this] at h
    simp at h
    exact Or.inr ⟨by omega, h.symm⟩
def chn (nx : Nat → Int32) (l : List Nat) : Prop := ∀ i x y, l[i]? = some x → l[i + 1]? = some y → nx x = nI y
def E (m : Nat) (AR : List (List Nat)) (σ τ : St) : Prop :=
  AR.flatten.Nodup ∧ (∀ s ∈ AR.flatten, s < m) ∧ σ 6 3 = nI AR.length ∧ τ 0 28 = nI AR.length ∧ τ 0 33 = nI AR.flatten.length ∧
  (∀ s, s < m → τ 29 s = σ 30 s ∧ (s ∉ AR.flatten → σ 30 s = -9)) ∧ (∀ r, r ≤ AR.length → AR ≠ [] → τ 26 r = nI (off AR r)) ∧
  (∀ r l, AR[r]? = some l → (∃ x t, l = x :: t ∧ σ 31 r = nI x ∧ (τ 27 r = if σ 29 x = -9 then 0 else 1)) ∧ (∀ y, l.getLast? = some y → σ 32 r = nI y) ∧ σ 33 r = nI l.length ∧ rep (τ 28) (off AR r) l ∧ chn (σ 28) l ∧ (∀ s ∈ l, σ 30 s = nI r))
theorem E_len {m : Nat} {AR : List (List Nat)} {σ τ : St} (h : E m AR σ τ) : AR.flatten.length ≤ m := nodup_len m _ h.1 h.2.1
theorem ne_len : ∀ (AR : List (List Nat)), (∀ l ∈ AR, l ≠ []) → AR.length ≤ AR.flatten.length := by
  intro AR
  induction AR with
  | nil => intro _; simp
  | cons a AR ih =>
    intro h
    have h1 := ih (fun l hl => h l (List.mem_cons_of_mem _ hl))
    have h2 : a ≠ [] := h a List.mem_cons_self
    have h3 : 0 < a.length := List.length_pos_iff.mpr h2
    rw [List.flatten_cons, List.length_append, List.length_cons]
    omega
theorem E_ar {m : Nat} {AR : List (List Nat)} {σ τ : St} (h : E m AR σ τ) : AR.length ≤ AR.flatten.length := ne_len AR (fun l hl => by
  obtain ⟨r, hr⟩ := List.getElem?_of_mem hl
  obtain ⟨⟨x, t, e, -⟩, -⟩ := h.2.2.2.2.2.2.2 r l hr
  rw [e]; simp)
/-- inside of one article: cur is laid, at comes next -/
def Fn (m : Nat) (AR : List (List Nat)) (x : Nat) (ring : Int32) (cur : List Nat) (at_ : Int32) (σb τb σ τ : St) : Prop :=
  (∀ c, c ≠ 30 → c ≠ 31 → c ≠ 32 → c ≠ 33 → σ c = σb c) ∧ (∀ c, c ≠ 26 → c ≠ 27 → c ≠ 28 → c ≠ 29 → c ≠ 0 → τ c = τb c) ∧ (∀ j, j ≠ 33 → τ 0 j = τb 0 j) ∧
  (∀ q, q ≠ AR.length → σ 31 q = σb 31 q ∧ σ 32 q = σb 32 q ∧ σ 33 q = σb 33 q ∧ τ 26 q = τb 26 q ∧ τ 27 q = τb 27 q) ∧ (∀ q, q < AR.flatten.length → τ 28 q = τb 28 q) ∧
  σ 31 AR.length = nI x ∧ σ 33 AR.length = nI cur.length ∧ (∀ y, cur.getLast? = some y → σ 32 AR.length = nI y) ∧ τ 26 AR.length = nI AR.flatten.length ∧ τ 27 AR.length = ring ∧ τ 0 33 = nI (AR.flatten.length + cur.length) ∧ rep (τ 28) AR.flatten.length cur ∧
  (AR.flatten ++ cur).Nodup ∧ (∀ s ∈ cur, s < m) ∧ (∀ s, s < m → τ 29 s = σ 30 s ∧ σ 30 s = if s ∈ cur then nI AR.length else σb 30 s) ∧
  chn (σb 28) cur ∧ (cur = [] → at_ = nI x) ∧ (∀ y, cur.getLast? = some y → at_ = σb 28 y) ∧ (cur ≠ [] → ∃ t, cur = x :: t)
theorem lay_end {m : Nat} {AR : List (List Nat)} {x : Nat} {ring : Int32} {cur : List Nat} {at_ : Int32} {σb τb σ τ : St} (hm : m ≤ 24) (hE : E m AR σb τb) (hring : ring = if σb 29 x = -9 then 0 else 1) (hF : Fn m AR x ring cur at_ σb τb σ τ) (hne : cur ≠ []) : ∃ σ' τ', f_X0_addFrom_B93 σ = some σ' ∧ f_X7_lays_B82 τ = some τ' ∧ E m (AR ++ [cur]) σ' τ' ∧ (∀ c, c ≠ 6 → c ≠ 30 → c ≠ 31 → c ≠ 32 → c ≠ 33 → σ' c = σb c) ∧ (∀ c, c ≠ 26 → c ≠ 27 → c ≠ 28 → c ≠ 29 → c ≠ 0 → τ' c = τb c) ∧ (∀ j, j ≠ 33 → j ≠ 28 → τ' 0 j = τb 0 j) := by
  obtain ⟨f1, f2, f3, f4, f5, f6, f7, f8, f9, f10, f11, f12, f13, f14, f15, f16, f17, f18, f19⟩ := hF
  obtain ⟨e1, e2, e3, e4, e5, e6, e7, e8⟩ := id hE
  have hl : (AR.flatten ++ cur).length ≤ m := nodup_len m _ f13 (fun s hs => by
    rcases List.mem_append.mp hs with h | h
    · exact e2 s h
    · exact f14 s h)
  rw [List.length_append] at hl
  have har := E_ar hE
  have hcp : 0 < cur.length := List.length_pos_iff.mpr hne
  have hfl : (AR ++ [cur]).flatten = AR.flatten ++ cur := by simp
  have c6 : σ 6 3 = nI AR.length := by rw [f1 6 (by decide) (by decide) (by decide) (by decide)]; exact e3
  have c28 : τ 0 28 = nI AR.length := by rw [f3 28 (by decide)]; exact e4
  unfold f_X0_addFrom_B93 f_X7_lays_B82
  simp only [lf_ok, sf_ok, c6, c28, nI_1, ss_same, ss_ne τ 0 28 33 _ (by decide), f11, sd25 (show AR.length + 1 < 25 by omega)]
  refine ⟨_, _, rfl, rfl, ⟨?_, ?_, ?_, ?_, ?_, ?_, ?_, ?_⟩, ?_, ?_, ?_⟩
  · rw [hfl]; exact f13
  · rw [hfl]; intro s hs
    rcases List.mem_append.mp hs with h | h
    · exact e2 s h
    · exact f14 s h
  · rw [ss_same, List.length_append]; rfl
  · rw [ss_c _ (by decide), ss_same, List.length_append]; rfl
  · rw [ss_c _ (by decide), ss_ne _ _ _ _ _ (by decide), hfl, List.length_append]; exact f11
  · intro s hs
    rw [ss_c _ (by decide), ss_c _ (by decide), ss_c _ (show 30 ≠ 6 by decide), hfl]
    refine ⟨(f15 s hs).1, fun hns => ?_⟩
    rw [(f15 s hs).2, if_neg (fun h => hns (List.mem_append_right _ h))]
    exact (e6 s hs).2 (fun h => hns (List.mem_append_left _ h))
  · intro r hr _
    rw [ss_if, ss_c _ (by decide)]
    rw [List.length_append] at hr
    simp only [List.length_cons, List.length_nil] at hr
    by_cases q : r = AR.length + 1
    · rw [if_pos q, q, show AR.length + 1 = (AR ++ [cur]).length by simp, off_all, hfl, List.length_append]
    · rw [if_neg q, off_app (by omega)]
      by_cases q2 : r = AR.length
      · rw [q2, f9, off_all]
      · rw [(f4 r q2).2.2.2.1]
        exact e7 r (by omega) (fun e => by rw [e] at q2 q hr; simp at q2 q hr; omega)
  · intro r l hr
    rcases app_get hr with ⟨hlt, h⟩ | ⟨rfl, rfl⟩
    · obtain ⟨⟨y, t, g1, g2, g3⟩, g4, g5, g6, g7, g8⟩ := e8 r l h
      have hq : r ≠ AR.length := by omega
      have hos := off_s h
      have hol := off_le AR (r + 1)
      rw [ss_c _ (show 31 ≠ 6 by decide), ss_c _ (show 32 ≠ 6 by decide), ss_c _ (show 33 ≠ 6 by decide), ss_c _ (show 29 ≠ 6 by decide), ss_c _ (show 28 ≠ 6 by decide), ss_c _ (show 30 ≠ 6 by decide), ss_c _ (show 27 ≠ 26 by decide), ss_c _ (show 27 ≠ 0 by decide), ss_c _ (show 28 ≠ 26 by decide), ss_c _ (show 28 ≠ 0 by decide), off_app (by omega), (f4 r hq).1, (f4 r hq).2.1, (f4 r hq).2.2.1, (f4 r hq).2.2.2.2, f1 28 (by decide) (by decide) (by decide) (by decide), f1 29 (by decide) (by decide) (by decide) (by decide)]
      refine ⟨⟨y, t, g1, g2, g3⟩, g4, g5, rep_kept g6 (fun i hi => f5 _ (by omega)), g7, fun s hs => ?_⟩
      have hsm : s ∈ AR.flatten := List.mem_flatten.mpr ⟨l, List.mem_of_getElem? h, hs⟩
      rw [(f15 s (e2 s hsm)).2, if_neg]
      · exact g8 s hs
      · intro hc
        have := List.nodup_append.mp f13
        exact this.2.2 s hsm s hc rfl
    · rw [ss_c _ (show 31 ≠ 6 by decide), ss_c _ (show 32 ≠ 6 by decide), ss_c _ (show 33 ≠ 6 by decide), ss_c _ (show 29 ≠ 6 by decide), ss_c _ (show 28 ≠ 6 by decide), ss_c _ (show 30 ≠ 6 by decide), ss_c _ (show 27 ≠ 26 by decide), ss_c _ (show 27 ≠ 0 by decide), ss_c _ (show 28 ≠ 26 by decide), ss_c _ (show 28 ≠ 0 by decide), off_app (Nat.le_refl _), off_all, f1 28 (by decide) (by decide) (by decide) (by decide), f1 29 (by decide) (by decide) (by decide) (by decide)]
      obtain ⟨t, ht⟩ := f19 hne
      exact ⟨⟨x, t, ht, f6, by rw [f10, hring]⟩, f8, f7, f12, f16, fun s hs => by rw [(f15 s (f14 s hs)).2, if_pos hs]⟩
  · intro c c1 c2 c3 c4 c5
    rw [ss_c _ c1]; exact f1 c c2 c3 c4 c5
  · intro c c1 c2 c3 c4 c5
    rw [ss_c _ c1, ss_c _ c5]; exact f2 c c1 c2 c3 c4 c5
  · intro j j1 j2
    rw [ss_c _ (by decide), ss_ne _ _ _ _ _ j2]; exact f3 j j1
set_option maxHeartbeats 1000000 in
theorem lay_step {m : Nat} {AR : List (List Nat)} {x : Nat} {ring : Int32} {cur : List Nat} {σb τb σ τ : St} {y : Nat} (hm : m ≤ 24) (hE : E m AR σb τb) (hlk : ∀ s, s < m → τb 24 s = σb 28 s) (hF : Fn m AR x ring cur (nI y) σb τb σ τ) (hy : y < m) (hxm : x < m) (hun : σ 30 y = -9) : y ∉ AR.flatten ++ cur ∧ ∃ σ' τ', (∀ (g : Nat) (a4 : Int32), (sd σ 30 24 (nI y) (nI AR.length) (fun σ3 => sd σ3 32 24 (nI AR.length) (nI y) (fun σ4 => ld σ4 33 24 (nI AR.length) (fun x5 => sd σ4 33 24 (nI AR.length) (x5 + 1) (fun σ6 => ld σ6 28 24 (nI y) (fun x7 => f_X0_addFrom_L24 g (nI AR.length) x7 a4 σ6)))))) = f_X0_addFrom_L24 g (nI AR.length) (σb 28 y) a4 σ') ∧ (∀ g : Nat, (lf τ 0 28 (fun x2 => sd τ 29 24 (nI y) x2 (fun σ3 => lf σ3 0 33 (fun x4 => sd σ3 28 24 x4 (nI y) (fun σ5 => lf σ5 0 33 (fun x6 => sf σ5 0 33 (x6 + 1) (fun σ7 => ld σ7 24 24 (nI y) (fun x8 => f_X7_lays_L25 g x8 σ7)))))))) = f_X7_lays_L25 g (σb 28 y) τ') ∧ Fn m AR x ring (cur ++ [y]) (σb 28 y) σb τb σ' τ' := by
  obtain ⟨f1, f2, f3, f4, f5, f6, f7, f8, f9, f10, f11, f12, f13, f14, f15, f16, f17, f18, f19⟩ := hF
  obtain ⟨e1, e2, e3, e4, e5, e6, e7, e8⟩ := id hE
  have har := E_ar hE
  have hyc : y ∉ cur := fun h => by
    rw [(f15 y hy).2, if_pos h] at hun
    exact nI_ne9 (by have := E_len hE; omega) hun
  have hyf : y ∉ AR.flatten := fun h => by
    rw [(f15 y hy).2, if_neg hyc] at hun
    obtain ⟨l, hl, hyl⟩ := List.mem_flatten.mp h
    obtain ⟨r, hr⟩ := List.getElem?_of_mem hl
    rw [(e8 r l hr).2.2.2.2.2 y hyl] at hun
    have := (List.getElem?_eq_some_iff.mp hr).1
    exact nI_ne9 (by have := E_len hE; omega) hun
  have hnot : y ∉ AR.flatten ++ cur := fun h => (List.mem_append.mp h).elim hyf hyc
  have hnd2 : (AR.flatten ++ (cur ++ [y])).Nodup := by
    rw [← List.append_assoc, List.nodup_append]
    exact ⟨f13, by simp, fun a ha b hb => by
      rw [List.mem_singleton.mp hb]
      exact fun e => hnot (e ▸ ha)⟩
  have hl : (AR.flatten ++ (cur ++ [y])).length ≤ m := nodup_len m _ hnd2 (fun s hs => by
    rcases List.mem_append.mp hs with h | h
    · exact e2 s h
    · rcases List.mem_append.mp h with h | h
      · exact f14 s h
      · rw [List.mem_singleton.mp h]; exact hy)
  simp only [List.length_append, List.length_cons, List.length_nil] at hl
  have hy24 : y < 24 := by omega
  have c28 : τ 0 28 = nI AR.length := by rw [f3 28 (by decide)]; exact e4
  refine ⟨hnot, ss (ss (ss σ 30 y (nI AR.length)) 32 AR.length (nI y)) 33 AR.length (nI (cur.length + 1)), ss (ss (ss τ 29 y (nI AR.length)) 28 (AR.flatten.length + cur.length) (nI y)) 0 33 (nI (AR.flatten.length + cur.length + 1)), ?_, ?_, ?_⟩
  · intro g a4
    simp only [sd24 hy24, sd24 (show AR.length < 24 by omega), ld24 (show AR.length < 24 by omega), ld24 hy24, ss_c _ (show 33 ≠ 32 by decide), ss_c _ (show 33 ≠ 30 by decide), f7, nI_1, ss_c _ (show 28 ≠ 33 by decide), ss_c _ (show 28 ≠ 32 by decide), ss_c _ (show 28 ≠ 30 by decide), f1 28 (by decide) (by decide) (by decide) (by decide)]
  · intro g
    simp only [lf_ok, sf_ok, c28, sd24 hy24, ss_c _ (show 0 ≠ 29 by decide), f11, sd24 (show AR.flatten.length + cur.length < 24 by omega), ss_c _ (show 0 ≠ 28 by decide), nI_1, ld24 hy24, ss_c _ (show 24 ≠ 0 by decide), ss_c _ (show 24 ≠ 28 by decide), ss_c _ (show 24 ≠ 29 by decide), f2 24 (by decide) (by decide) (by decide) (by decide) (by decide), hlk y hy]
  · have r30 : ∀ s, ss (ss (ss σ 30 y (nI AR.length)) 32 AR.length (nI y)) 33 AR.length (nI (cur.length + 1)) 30 s = if s = y then nI AR.length else σ 30 s := fun s => by rw [ss_c _ (by decide), ss_c _ (by decide), ss_if]
    have r29 : ∀ s, ss (ss (ss τ 29 y (nI AR.length)) 28 (AR.flatten.length + cur.length) (nI y)) 0 33 (nI (AR.flatten.length + cur.length + 1)) 29 s = if s = y then nI AR.length else τ 29 s := fun s => by rw [ss_c _ (by decide), ss_c _ (by decide), ss_if]
    have r28 : ∀ s, ss (ss (ss τ 29 y (nI AR.length)) 28 (AR.flatten.length + cur.length) (nI y)) 0 33 (nI (AR.flatten.length + cur.length + 1)) 28 s = if s = AR.flatten.length + cur.length then nI y else τ 28 s := fun s => by rw [ss_c _ (by decide), ss_if, ss_c _ (show 28 ≠ 29 by decide)]
    refine ⟨?_, ?_, ?_, ?_, ?_, ?_, ?_, ?_, ?_, ?_, ?_, ?_, hnd2, ?_, ?_, ?_, ?_, ?_, ?_⟩
    · intro c c1 c2 c3 c4
      rw [ss_c _ c4, ss_c _ c3, ss_c _ c1]; exact f1 c c1 c2 c3 c4
    · intro c c1 c2 c3 c4 c5
      rw [ss_c _ c5, ss_c _ c3, ss_c _ c4]; exact f2 c c1 c2 c3 c4 c5
    · intro j hj
      rw [ss_ne _ _ _ _ _ hj, ss_c _ (by decide), ss_c _ (by decide)]; exact f3 j hj
    · intro q hq
      rw [ss_c _ (show 31 ≠ 33 by decide), ss_c _ (show 31 ≠ 32 by decide), ss_c _ (show 31 ≠ 30 by decide), ss_c _ (show 32 ≠ 33 by decide), ss_ne _ _ _ _ _ hq, ss_c _ (show 32 ≠ 30 by decide), ss_ne _ _ _ _ _ hq, ss_c _ (show 33 ≠ 32 by decide), ss_c _ (show 33 ≠ 30 by decide), ss_c _ (show 26 ≠ 0 by decide), ss_c _ (show 26 ≠ 28 by decide), ss_c _ (show 26 ≠ 29 by decide), ss_c _ (show 27 ≠ 0 by decide), ss_c _ (show 27 ≠ 28 by decide), ss_c _ (show 27 ≠ 29 by decide)]
      exact f4 q hq
    · intro q hq
      rw [r28, if_neg (by omega)]; exact f5 q hq
    · rw [ss_c _ (show 31 ≠ 33 by decide), ss_c _ (show 31 ≠ 32 by decide), ss_c _ (show 31 ≠ 30 by decide)]; exact f6
    · rw [ss_same, List.length_append]; rfl
    · intro z hz
      rw [List.getLast?_concat] at hz
      rw [ss_c _ (show 32 ≠ 33 by decide), ss_same, Option.some.inj hz]
    · rw [ss_c _ (show 26 ≠ 0 by decide), ss_c _ (show 26 ≠ 28 by decide), ss_c _ (show 26 ≠ 29 by decide)]; exact f9
    · rw [ss_c _ (show 27 ≠ 0 by decide), ss_c _ (show 27 ≠ 28 by decide), ss_c _ (show 27 ≠ 29 by decide)]; exact f10
    · rw [ss_same, List.length_append]; rfl
    · exact rep_push f12 (fun i hi => by rw [r28, if_neg (by omega)]) (by rw [r28, if_pos rfl])
    · intro s hs
      rcases List.mem_append.mp hs with h | h
      · exact f14 s h
      · rw [List.mem_singleton.mp h]; exact hy
    · intro s hs
      rw [r29, r30]
      by_cases q : s = y
      · rw [if_pos q, if_pos q, if_pos (List.mem_append_right _ (List.mem_singleton.mpr q))]; exact ⟨rfl, rfl⟩
      · rw [if_neg q, if_neg q, (f15 s hs).1, (f15 s hs).2]
        refine ⟨rfl, ?_⟩
        by_cases q2 : s ∈ cur
        · rw [if_pos q2, if_pos (List.mem_append_left _ q2)]
        · rw [if_neg q2, if_neg (fun z => (List.mem_append.mp z).elim q2 (fun z => q (List.mem_singleton.mp z)))]
    · intro i a c ha hc
      by_cases q : i + 1 < cur.length
      · rw [List.getElem?_append_left (by omega)] at ha
        rw [List.getElem?_append_left q] at hc
        exact f16 i a c ha hc
      · by_cases q2 : i + 1 = cur.length
        · rw [List.getElem?_append_left (by omega)] at ha
          rw [List.getElem?_append_right (by omega), q2, Nat.sub_self] at hc
          simp at hc
          have hla : cur.getLast? = some a := by rw [List.getLast?_eq_getElem?, show cur.length - 1 = i by omega]; exact ha
          rw [← f18 a hla, hc]
        · rw [List.getElem?_eq_none (by simp; omega)] at hc; cases hc
    · intro h; simp at h
    · intro z hz
      rw [List.getLast?_concat] at hz
      rw [← Option.some.inj hz]
    · intro _
      by_cases q : cur = []
      · have : y = x := by
          have h9 : nI y = nI x := f17 q
          exact (nI_eq (by omega) (by omega)).mp h9
        rw [q, this]; exact ⟨[], rfl⟩
      · obtain ⟨t, ht⟩ := f19 q
        exact ⟨t ++ [y], by rw [ht]; rfl⟩
