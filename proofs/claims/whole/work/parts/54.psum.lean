/-! sums over lists of numbers -/
def sm (w : Nat → Int32) : List Nat → Int32
  | [] => 0
  | k :: l => w k + sm w l
def rl : Nat → Nat → List Nat
  | _, 0 => []
  | k, d + 1 => k :: rl (k + 1) d
theorem rl_mem (j : Nat) : ∀ d k, j ∈ rl k d ↔ k ≤ j ∧ j < k + d := by
  intro d
  induction d with
  | zero => intro k; simp [rl]
  | succ d ih =>
    intro k
    rw [rl, List.mem_cons, ih]
    omega
theorem rl_nodup : ∀ d k, (rl k d).Nodup := by
  intro d
  induction d with
  | zero => intro k; simp [rl]
  | succ d ih =>
    intro k
    rw [rl]
    exact List.nodup_cons.mpr ⟨fun h => by have := (rl_mem k d (k + 1)).mp h; omega, ih (k + 1)⟩
theorem sm_app (w : Nat → Int32) (l1 l2 : List Nat) : sm w (l1 ++ l2) = sm w l1 + sm w l2 := by
  induction l1 with
  | nil => rw [List.nil_append, sm, Int32.zero_add]
  | cons a l ih => rw [List.cons_append, sm, sm, ih, Int32.add_assoc]
theorem sm_one (l : List Nat) : sm (fun _ => 1) l = nI l.length := by
  induction l with
  | nil => rfl
  | cons a l ih => rw [sm, ih, List.length_cons, Int32.add_comm, nI_1]
theorem sm_congr {w v : Nat → Int32} {l : List Nat} (h : ∀ k ∈ l, w k = v k) : sm w l = sm v l := by
  induction l with
  | nil => rfl
  | cons a l ih => rw [sm, sm, h a List.mem_cons_self, ih (fun k hk => h k (List.mem_cons_of_mem _ hk))]
theorem sm_erase (w : Nat → Int32) (x : Nat) : ∀ l : List Nat, l.Nodup → x ∈ l → sm w l = w x + sm w (l.filter (fun y => decide (y ≠ x))) := by
  intro l
  induction l with
  | nil => intro _ h; cases h
  | cons a l ih =>
    intro hn hx
    have hn' := List.nodup_cons.mp hn
    by_cases e : a = x
    · subst e
      have h4 : l.filter (fun y => decide (y ≠ a)) = l := List.filter_eq_self.mpr (fun y hy => by
        have : y ≠ a := fun e => hn'.1 (e ▸ hy)
        simpa using this)
      rw [sm, List.filter_cons, if_neg (by simp), h4]
    · have hxl : x ∈ l := (List.mem_cons.mp hx).resolve_left (fun z => e z.symm)
      rw [sm, ih hn'.2 hxl, List.filter_cons, if_pos (by simpa using e), sm, ← Int32.add_assoc, ← Int32.add_assoc, Int32.add_comm (w a) (w x)]
theorem sm_eq (w : Nat → Int32) : ∀ l1 l2 : List Nat, l1.Nodup → l2.Nodup → (∀ y, y ∈ l1 ↔ y ∈ l2) → sm w l1 = sm w l2 := by
  intro l1
  induction l1 with
  | nil =>
    intro l2 _ _ h
    cases l2 with
    | nil => rfl
    | cons a l => exact absurd ((h a).mpr List.mem_cons_self) (by simp)
  | cons a l1 ih =>
    intro l2 h1 h2 h
    have h1' := List.nodup_cons.mp h1
    rw [sm_erase w a l2 h2 ((h a).mp List.mem_cons_self), sm]
    rw [ih (l2.filter (fun y => decide (y ≠ a))) h1'.2 (List.Pairwise.filter _ h2) (fun y => by
      rw [List.mem_filter]
      constructor
      · intro hy
        refine ⟨(h y).mp (List.mem_cons_of_mem _ hy), ?_⟩
        have : y ≠ a := fun e => h1'.1 (e ▸ hy)
        simpa using this
      · rintro ⟨hy, hd⟩
        have hd' : y ≠ a := by simpa using hd
        exact (List.mem_cons.mp ((h y).mpr hy)).resolve_left hd')]
theorem sm_fold (w : Nat → Int32) (p : Nat → Prop) [DecidablePred p] : ∀ (l : List Nat) (a : Int32), l.foldl (fun a k => if p k then a + w k else a) a = a + sm w (l.filter (fun k => decide (p k))) := by
  intro l
  induction l with
  | nil => intro a; rw [List.filter_nil, sm, Int32.add_zero]; rfl
  | cons k l ih =>
    intro a
    rw [List.foldl_cons, ih, List.filter_cons]
    by_cases h : p k
    · rw [if_pos h, if_pos (by simpa using h), sm, Int32.add_assoc]
    · rw [if_neg h, if_neg (by simpa using h)]
/-! sums over the row of the texts, by the class -/
theorem sum_step {w : Nat → Int32} {p : Nat → Prop} [DecidablePred p] {a : Int32} {k d : Nat} : a + sm w ((rl k (d + 1)).filter (fun k => decide (p k))) = (if p k then a + w k else a) + sm w ((rl (k + 1) d).filter (fun k => decide (p k))) := by
  rw [rl, List.filter_cons]
  by_cases h : p k
  · rw [if_pos h, if_pos (by simpa using h), sm, Int32.add_assoc]
  · rw [if_neg h, if_neg (by simpa using h)]
theorem drop_step {w : Nat → Int32} {p : Nat → Prop} [DecidablePred p] {a : Int32} {S : List Nat} {i : Nat} (hi : i < S.length) : a + sm w ((S.drop i).filter (fun k => decide (p k))) = (if p S[i] then a + w S[i] else a) + sm w ((S.drop (i + 1)).filter (fun k => decide (p k))) := by
  rw [drop_get hi, List.filter_cons]
  by_cases h : p S[i]
  · rw [if_pos h, if_pos (by simpa using h), sm, Int32.add_assoc]
  · rw [if_neg h, if_neg (by simpa using h)]
/-- what the class knows of its stories -/
def SC (n : Nat) (σ : St) (S : List Nat) (f : Nat → Int32) : Prop := n ≤ 24 ∧ (∀ j ∈ S, j < n) ∧ S.length ≤ 24 ∧ (∀ j, j < n → σ 24 j = sto f j) ∧ σ 5 10 = nI S.length ∧ rep (σ 26) 0 S
theorem p_tx {n : Nat} {σ : St} {S : List Nat} {f : Nat → Int32} (h : SC n σ S f) (s : Nat) : ∀ (d i g : Nat) (a : Int32), i + d = S.length → d < g → f_X5_textsOf_L4 σ g (nI s) a (nI i) = some (a + sm (fun _ => 1) ((S.drop i).filter (fun k => decide (sto f k = nI s)))) := by
  obtain ⟨hn, hS, hl, h1, ht, hr⟩ := h
  intro d
  induction d with
  | zero =>
    intro i g a hi hg
    obtain ⟨g, rfl⟩ : ∃ z, g = z + 1 := ⟨g - 1, by omega⟩
    rw [f_X5_textsOf_L4, lf_ok, ht, if_pos (nI_le (by omega) (by omega)), List.drop_eq_nil_of_le (by omega), List.filter_nil, sm, Int32.add_zero]
  | succ d ih =>
    intro i g a hi hg
    obtain ⟨g, rfl⟩ : ∃ z, g = z + 1 := ⟨g - 1, by omega⟩
    have hlt : i < S.length := by omega
    have hv : σ 26 i = nI S[i] := by have := hr i _ (List.getElem?_eq_getElem hlt); rwa [Nat.zero_add] at this
    have hkn : S[i] < n := hS _ (List.getElem_mem hlt)
    rw [drop_step hlt, ← ih (i + 1) g _ (by omega) (by omega), f_X5_textsOf_L4]
    simp only [lf_ok, ht, if_neg (nle_of hlt (show S.length < 2 ^ 31 by omega)), ld24 (show i < 24 by omega), hv, ld24 (show S[i] < 24 by omega), h1 _ hkn, nI_1]
    by_cases q : sto f S[i] = nI s
    · rw [if_pos q, if_pos q]
    · rw [if_neg q, if_neg q]
theorem p_wo2 {n : Nat} {σ : St} {S : List Nat} {f : Nat → Int32} (h : SC n σ S f) (s : Nat) : ∀ (d i g : Nat) (a : Int32), i + d = S.length → d < g → f_X5_wordsOf_L4 σ g (nI s) a (nI i) = some (a + sm (σ 13) ((S.drop i).filter (fun k => decide (sto f k = nI s)))) := by
  obtain ⟨hn, hS, hl, h1, ht, hr⟩ := h
  intro d
  induction d with
  | zero =>
    intro i g a hi hg
    obtain ⟨g, rfl⟩ : ∃ z, g = z + 1 := ⟨g - 1, by omega⟩
    rw [f_X5_wordsOf_L4, lf_ok, ht, if_pos (nI_le (by omega) (by omega)), List.drop_eq_nil_of_le (by omega), List.filter_nil, sm, Int32.add_zero]
  | succ d ih =>
    intro i g a hi hg
    obtain ⟨g, rfl⟩ : ∃ z, g = z + 1 := ⟨g - 1, by omega⟩
    have hlt : i < S.length := by omega
    have hv : σ 26 i = nI S[i] := by have := hr i _ (List.getElem?_eq_getElem hlt); rwa [Nat.zero_add] at this
    have hkn : S[i] < n := hS _ (List.getElem_mem hlt)
    rw [drop_step hlt, ← ih (i + 1) g _ (by omega) (by omega), f_X5_wordsOf_L4]
    simp only [lf_ok, ht, if_neg (nle_of hlt (show S.length < 2 ^ 31 by omega)), ld24 (show i < 24 by omega), hv, ld24 (show S[i] < 24 by omega), h1 _ hkn, nI_1]
    by_cases q : sto f S[i] = nI s
    · rw [if_pos q, if_pos q]
    · rw [if_neg q, if_neg q]
theorem p_wm {τ : St} {L : List Nat} {b : Nat} {w : Nat → Int32} (hb : b < 24) (hS : ∀ j ∈ L, j < 24 ∧ τ 7 j = w j) (ht : τ 18 b = nI L.length) (hr : rep (τ 19) (24 * b) L) (hl : L.length ≤ 24) : ∀ (d i g : Nat) (a : Int32), i + d = L.length → d < g → f_X7_wordsIn_L12 τ g (nI b) a (nI i) = some (a + sm w (L.drop i)) := by
  intro d
  induction d with
  | zero =>
    intro i g a hi hg
    obtain ⟨g, rfl⟩ : ∃ z, g = z + 1 := ⟨g - 1, by omega⟩
    rw [f_X7_wordsIn_L12, ld24 hb, ht, if_pos (nI_le (by omega) (by omega)), List.drop_eq_nil_of_le (by omega), sm, Int32.add_zero]
  | succ d ih =>
    intro i g a hi hg
    obtain ⟨g, rfl⟩ : ∃ z, g = z + 1 := ⟨g - 1, by omega⟩
    have hlt : i < L.length := by omega
    have hv : τ 19 (24 * b + i) = nI L[i] := hr i _ (List.getElem?_eq_getElem hlt)
    obtain ⟨hk, hw⟩ := hS _ (List.getElem_mem hlt)
    rw [drop_get hlt, sm, ← Int32.add_assoc, ← ih (i + 1) g _ (by omega) (by omega), f_X7_wordsIn_L12]
    simp only [ld24 hb, ht, if_neg (nle_of hlt (show L.length < 2 ^ 31 by omega)), nI_24, ld576 (show 24 * b + i < 576 by omega), hv, ld24 hk, hw, nI_1]
/-- the text at a place, or none -/
def ox : Option Nat → Int32
  | none => -9
  | some x => nI x
theorem p_ta {n : Nat} {σ : St} {S : List Nat} {f : Nat → Int32} (h : SC n σ S f) (s i : Nat) (hi24 : i < 2 ^ 30) : ∀ (d p g a : Nat), p + d = S.length → d < g → a ≤ i → f_X5_textAt_L5 σ g (nI s) (nI i) (nI a) (nI p) = some (ox (((S.drop p).filter (fun k => decide (sto f k = nI s)))[i - a]?)) := by
  obtain ⟨hn, hS, hl, h1, ht, hr⟩ := h
  intro d
  induction d with
  | zero =>
    intro p g a hp hg ha
    obtain ⟨g, rfl⟩ : ∃ z, g = z + 1 := ⟨g - 1, by omega⟩
    rw [f_X5_textAt_L5, lf_ok, ht, if_pos (nI_le (by omega) (by omega)), List.drop_eq_nil_of_le (by omega), List.filter_nil]
    rfl
  | succ d ih =>
    intro p g a hp hg ha
    obtain ⟨g, rfl⟩ : ∃ z, g = z + 1 := ⟨g - 1, by omega⟩
    have hlt : p < S.length := by omega
    have hv : σ 26 p = nI S[p] := by have := hr p _ (List.getElem?_eq_getElem hlt); rwa [Nat.zero_add] at this
    have hkn : S[p] < n := hS _ (List.getElem_mem hlt)
    rw [f_X5_textAt_L5]
    simp only [lf_ok, ht, if_neg (nle_of hlt (show S.length < 2 ^ 31 by omega)), ld24 (show p < 24 by omega), hv, ld24 (show S[p] < 24 by omega), h1 _ hkn, nI_1]
    rw [drop_get hlt, List.filter_cons]
    by_cases q : sto f S[p] = nI s
    · have qd : decide (sto f S[p] = nI s) = true := by simpa using q
      rw [if_pos q, if_pos qd]
      by_cases e : a = i
      · subst e
        rw [if_pos rfl, Nat.sub_self]
        rfl
      · rw [if_neg (fun z => e ((nI_eq (by omega) (by omega)).mp z)), ih (p + 1) g (a + 1) (by omega) (by omega) (by omega), show i - a = (i - (a + 1)) + 1 by omega, List.getElem?_cons_succ]
    · have qd : ¬ decide (sto f S[p] = nI s) = true := by simpa using q
      rw [if_neg q, if_neg qd]
      exact ih (p + 1) g a (by omega) (by omega) ha
theorem D1.sc {n ln : Nat} {σ τ τ0 : St} {S : List Nat} {f : Nat → Int32} (h : B0 n ln σ τ0) (hD : D1 n σ τ S f) : SC n σ S f :=
  ⟨h.1, fun j hj => ((hD.2.2.2.1 j).mp hj).1, Nat.le_trans (nodup_len n S hD.2.2.1 (fun j hj => ((hD.2.2.2.1 j).mp hj).1)) h.1, fun j hj => (hD.2.1 j hj).2.2.2.1, hD.2.2.2.2.1, hD.2.2.2.2.2.1⟩
/-- texts, words, the text at a place of a story: both sides -/
theorem q_txt {n ln : Nat} {σ τ : St} {S : List Nat} {f : Nat → Int32} (h : B0 n ln σ τ) (hW : Wd n σ τ) (hD : D1 n σ τ S f) {s b : Nat} (hs : (RT f n)[s]? = some b) : f_X5_textsOf (nI s) σ = some (nI (fl f b S).length) ∧ τ 18 b = nI (fl f b S).length ∧ f_X5_wordsOf (nI s) σ = some (sm (σ 13) (fl f b S)) ∧ f_X7_wordsIn (nI s) τ = some (sm (σ 13) (fl f b S)) ∧ (∀ i, i < 2 ^ 30 → f_X5_textAt (nI s) (nI i) σ = some (ox ((fl f b S)[i]?))) := by
  have hsc := hD.sc h
  obtain ⟨hn, hS, hl, h1, ht, hr⟩ := id hsc
  obtain ⟨hbn, fb, es⟩ := RT_get hs
  have hfs := fl_sto hn hD.1 hS hs
  have hfl := fl_len f b S
  have hsl : s < 24 := by have := RT_len f b; omega
  refine ⟨?_, (hD.2.2.2.2.2.2.2.2.2.2 b hbn).1, ?_, ?_, fun i hi => ?_⟩
  · have := p_tx hsc s S.length 0 64 0 (by omega) (by omega)
    rw [List.drop_zero, hfs, sm_one, Int32.zero_add] at this
    exact this
  · have := p_wo2 hsc s S.length 0 64 0 (by omega) (by omega)
    rw [List.drop_zero, hfs, Int32.zero_add] at this
    exact this
  · unfold f_X7_wordsIn
    have hv : τ 20 s = nI b := by have := hD.2.2.2.2.2.2.2.2.2.1 s b hs; rwa [Nat.zero_add] at this
    rw [ld24 hsl, hv]
    have := p_wm (τ := τ) (L := fl f b S) (b := b) (w := σ 13) (by omega) (fun j hj => by
      have hjS := (List.mem_filter.mp hj).1
      have hjm := (hD.2.2.2.1 j).mp hjS
      exact ⟨by omega, (hW j hjm.1).1 hjm.2⟩) (hD.2.2.2.2.2.2.2.2.2.2 b hbn).1 (hD.2.2.2.2.2.2.2.2.2.2 b hbn).2 (by omega) (fl f b S).length 0 64 0 (by omega) (by omega)
    rw [List.drop_zero, Int32.zero_add] at this
    exact this
  · have := p_ta hsc s i hi S.length 0 64 0 (by omega) (by omega) (by omega)
    rw [List.drop_zero, hfs, Nat.sub_zero] at this
    exact this
