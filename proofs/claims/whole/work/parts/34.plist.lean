/-! lists of numbers in rows -/
def rep (f : Nat → Int32) (o : Nat) (l : List Nat) : Prop := ∀ i x, l[i]? = some x → f (o + i) = nI x
theorem rep_nil (f : Nat → Int32) (o : Nat) : rep f o [] := fun i x h => by simp at h
theorem rep_push {f g : Nat → Int32} {o : Nat} {l : List Nat} {x : Nat} (h : rep f o l) (h1 : ∀ i, i < l.length → g (o + i) = f (o + i)) (h2 : g (o + l.length) = nI x) : rep g o (l ++ [x]) := by
  intro i y hy
  by_cases hi : i < l.length
  · rw [List.getElem?_append_left hi] at hy
    rw [h1 i hi]; exact h i y hy
  · rw [List.getElem?_append_right (by omega)] at hy
    have : i - l.length = 0 := by
      rcases Nat.eq_zero_or_pos (i - l.length) with z | z
      · exact z
      · rw [List.getElem?_eq_none (by simp; omega)] at hy; cases hy
    rw [this] at hy
    rw [show i = l.length by omega, h2]
    simp at hy; rw [hy]
theorem rep_kept {f g : Nat → Int32} {o : Nat} {l : List Nat} (h : rep f o l) (h1 : ∀ i, i < l.length → g (o + i) = f (o + i)) : rep g o l := by
  intro i y hy
  rw [h1 i (List.getElem?_eq_some_iff.mp hy).1]; exact h i y hy
theorem nodup_len : ∀ (n : Nat) (l : List Nat), l.Nodup → (∀ x ∈ l, x < n) → l.length ≤ n := by
  intro n
  induction n with
  | zero =>
    intro l _ h
    cases l with
    | nil => simp
    | cons a l => exact absurd (h a (by simp)) (by omega)
  | succ n ih =>
    intro l hn h
    have h1 := ih (l.filter (fun x => x ≠ n)) (hn.filter _) (fun x hx => by
      have := List.mem_filter.mp hx
      have h2 := h x this.1
      have h3 : x ≠ n := by simpa using this.2
      omega)
    have h2 : l.length ≤ (l.filter (fun x => x ≠ n)).length + 1 := by
      clear h ih h1
      induction l with
      | nil => simp
      | cons a l ih2 =>
        have hn' := List.nodup_cons.mp hn
        by_cases e : a = n
        · subst e
          have h4 : l.filter (fun x => x ≠ a) = l := List.filter_eq_self.mpr (fun x hx => by
            have : x ≠ a := fun e => hn'.1 (e ▸ hx)
            simpa using this)
          rw [List.filter_cons]
          simp only [ne_eq, not_true_eq_false, decide_false, Bool.false_eq_true, if_false]
          have h5 : (l.filter (fun x => decide ¬ x = a)) = l := h4
          rw [h5]; simp
        · have := ih2 hn'.2
          rw [List.filter_cons]
          simp only [ne_eq] at this
          simp only [ne_eq, e, not_false_eq_true, decide_true, if_true, List.length_cons]
          omega
    omega
theorem nodup_rev {l : List Nat} (h : l.Nodup) : l.reverse.Nodup := by
  unfold List.Nodup
  rw [List.pairwise_reverse]
  exact List.Pairwise.imp (fun h e => h e.symm) h
/-! a number comes to its place from behind -/
def ri (K : Nat → Nat) (x : Nat) : List Nat → List Nat
  | [] => [x]
  | e :: R => if K x < K e then e :: ri K x R else x :: e :: R
def ins (K : Nat → Nat) (x : Nat) (S : List Nat) : List Nat := (ri K x S.reverse).reverse
def Sd (K : Nat → Nat) (R : List Nat) : Prop := R.Pairwise (fun a b => K b ≤ K a)
theorem ri_mem (K : Nat → Nat) (x y : Nat) : ∀ R : List Nat, y ∈ ri K x R ↔ y = x ∨ y ∈ R := by
  intro R
  induction R with
  | nil => simp [ri]
  | cons e R ih =>
    unfold ri
    by_cases h : K x < K e
    · rw [if_pos h, List.mem_cons, ih, List.mem_cons]
      constructor
      · rintro (h | h | h) <;> simp [h]
      · rintro (h | h | h) <;> simp [h]
    · rw [if_neg h]; simp
theorem ri_len (K : Nat → Nat) (x : Nat) : ∀ R : List Nat, (ri K x R).length = R.length + 1 := by
  intro R
  induction R with
  | nil => simp [ri]
  | cons e R ih =>
    unfold ri
    by_cases h : K x < K e
    · rw [if_pos h]; simp [ih]
    · rw [if_neg h]; simp
theorem ri_nodup (K : Nat → Nat) (x : Nat) : ∀ R : List Nat, R.Nodup → x ∉ R → (ri K x R).Nodup := by
  intro R
  induction R with
  | nil => simp [ri]
  | cons e R ih =>
    intro h hx
    have h1 := List.nodup_cons.mp h
    unfold ri
    by_cases q : K x < K e
    · rw [if_pos q]
      refine List.nodup_cons.mpr ⟨fun hm => ?_, ih h1.2 (fun hm => hx (List.mem_cons_of_mem _ hm))⟩
      rcases (ri_mem K x e R).mp hm with hm | hm
      · exact hx (by rw [← hm]; exact List.mem_cons_self)
      · exact h1.1 hm
    · rw [if_neg q]; exact List.nodup_cons.mpr ⟨hx, h⟩
theorem ri_sd (K : Nat → Nat) (x : Nat) : ∀ R : List Nat, Sd K R → Sd K (ri K x R) := by
  intro R
  induction R with
  | nil => intro _; simp [ri, Sd]
  | cons e R ih =>
    intro h
    have h1 := List.pairwise_cons.mp h
    unfold ri
    by_cases q : K x < K e
    · rw [if_pos q]
      refine List.pairwise_cons.mpr ⟨fun b hb => ?_, ih h1.2⟩
      rcases (ri_mem K x b R).mp hb with hb | hb
      · rw [hb]; omega
      · exact h1.1 b hb
    · rw [if_neg q]
      refine List.pairwise_cons.mpr ⟨fun b hb => ?_, h⟩
      rcases List.mem_cons.mp hb with hb | hb
      · rw [hb]; omega
      · have := h1.1 b hb; omega
theorem ri_filter (K : Nat → Nat) (x : Nat) (p : Nat → Bool) : ∀ R : List Nat, Sd K R → (ri K x R).filter p = if p x then ri K x (R.filter p) else R.filter p := by
  intro R
  induction R with
  | nil => intro _; by_cases h : p x <;> simp [ri, h]
  | cons e R ih =>
    intro h
    have h1 := List.pairwise_cons.mp h
    by_cases q : K x < K e
    · have e1 : ri K x (e :: R) = e :: ri K x R := by rw [ri, if_pos q]
      rw [e1, List.filter_cons, List.filter_cons, ih h1.2]
      by_cases hx : p x <;> by_cases he : p e <;> simp [hx, he, ri, q]
    · have e1 : ri K x (e :: R) = x :: e :: R := by rw [ri, if_neg q]
      rw [e1, List.filter_cons]
      by_cases hx : p x
      · simp only [hx, if_true]
        cases hf : (e :: R).filter p with
        | nil => simp [ri]
        | cons a L =>
          have ha : a ∈ e :: R := (List.mem_filter.mp (by rw [hf]; exact List.mem_cons_self)).1
          have : ¬ K x < K a := by
            rcases List.mem_cons.mp ha with ha | ha
            · rw [ha]; exact q
            · have := h1.1 a ha; omega
          rw [ri, if_neg this]
      · simp [hx]
theorem ins_filter (K : Nat → Nat) (x : Nat) (p : Nat → Bool) (S : List Nat) (h : Sd K S.reverse) : (ins K x S).filter p = if p x then ins K x (S.filter p) else S.filter p := by
  unfold ins
  rw [List.filter_reverse, ri_filter K x p _ h, List.filter_reverse]
  by_cases hx : p x <;> simp [hx]
theorem ri_app (K : Nat → Nat) (x : Nat) (A : List Nat) (hA : A = [] ∨ ∃ e L, A = e :: L ∧ ¬ K x < K e) : ∀ B : List Nat, (∀ e ∈ B, K x < K e) → ri K x (B ++ A) = B ++ x :: A := by
  intro B
  induction B with
  | nil =>
    intro _
    rcases hA with rfl | ⟨e, L, rfl, h⟩
    · simp [ri]
    · simp [ri, h]
  | cons b B ih =>
    intro h
    rw [List.cons_append, ri, if_pos (h b List.mem_cons_self), ih (fun e he => h e (List.mem_cons_of_mem _ he))]
    simp
theorem ins_eq (K : Nat → Nat) (x : Nat) (S : List Nat) (p : Nat) (h1 : ∀ e ∈ S.drop p, K x < K e) (h2 : p = 0 ∨ ∃ e, S[p - 1]? = some e ∧ ¬ K x < K e) (h3 : p ≤ S.length) : ins K x S = S.take p ++ x :: S.drop p := by
  unfold ins
  have e1 : S.reverse = (S.drop p).reverse ++ (S.take p).reverse := by
    rw [← List.reverse_append, List.take_append_drop]
  rw [e1, ri_app K x (S.take p).reverse]
  · simp
  · rcases h2 with rfl | ⟨e, he, hk⟩
    · left; simp
    · rcases Nat.eq_zero_or_pos p with z | z
      · left; subst z; simp
      · right
        have hlt := (List.getElem?_eq_some_iff.mp he).1
        refine ⟨e, (S.take (p - 1)).reverse, ?_, hk⟩
        have : S.take p = S.take (p - 1) ++ [e] := by
          obtain ⟨q, rfl⟩ : ∃ q, p = q + 1 := ⟨p - 1, by omega⟩
          rw [List.take_succ]
          simp only [Nat.add_sub_cancel] at he ⊢
          rw [he]; rfl
        rw [this]; simp
  · intro e he; exact h1 e (List.mem_reverse.mp he)
theorem ins_len (K : Nat → Nat) (x : Nat) (S : List Nat) : (ins K x S).length = S.length + 1 := by unfold ins; rw [List.length_reverse, ri_len, List.length_reverse]
theorem ins_mem (K : Nat → Nat) (x y : Nat) (S : List Nat) : y ∈ ins K x S ↔ y = x ∨ y ∈ S := by unfold ins; rw [List.mem_reverse, ri_mem, List.mem_reverse]
theorem ins_nodup (K : Nat → Nat) (x : Nat) (S : List Nat) (h : S.Nodup) (hx : x ∉ S) : (ins K x S).Nodup := by
  unfold ins
  exact nodup_rev (ri_nodup K x _ (nodup_rev h) (fun h => hx (List.mem_reverse.mp h)))
theorem ins_sd (K : Nat → Nat) (x : Nat) (S : List Nat) (h : Sd K S.reverse) : Sd K (ins K x S).reverse := by
  unfold ins; rw [List.reverse_reverse]; exact ri_sd K x _ h
/-- reading a list into which a number came -/
theorem mid_get (S : List Nat) (x p i y : Nat) (hp : p ≤ S.length) (h : (S.take p ++ x :: S.drop p)[i]? = some y) : (i < p ∧ S[i]? = some y) ∨ (i = p ∧ y = x) ∨ (p < i ∧ S[i - 1]? = some y) := by
  have hl : (S.take p).length = p := by simp; omega
  rcases Nat.lt_trichotomy i p with q | q | q
  · rw [List.getElem?_append_left (by omega), List.getElem?_take_of_lt q] at h
    exact Or.inl ⟨q, h⟩
  · rw [List.getElem?_append_right (by omega), hl, q, Nat.sub_self] at h
    simp at h; exact Or.inr (Or.inl ⟨q, h.symm⟩)
  · rw [List.getElem?_append_right (by omega), hl, show i - p = (i - 1 - p) + 1 by omega, List.getElem?_cons_succ, List.getElem?_drop] at h
    rw [show p + (i - 1 - p) = i - 1 by omega] at h
    exact Or.inr (Or.inr ⟨q, h⟩)
