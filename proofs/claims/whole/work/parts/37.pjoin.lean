/-! loose texts are joined, on both sides the same ones by the same ones -/
def fl (r : Nat → Int32) (w : Nat) (S : List Nat) : List Nat := S.filter (fun j => decide (r j = nI w))
def J (n : Nat) (σ0 τ0 : St) (ov : Nat → Int32) (S : List Nat) (σ τ : St) : Prop :=
  fC σ0 σ ∧ fM τ0 τ ∧
  (∀ j, j < n → σ 21 j = ov j ∧ τ 15 j = ov j ∧ τ 17 j = σ 22 j ∧ (σ 22 j = -9 ∨ σ0 8 j = 1) ∧ (σ0 8 j = 0 → σ 23 j = nI j ∧ τ 16 j = -9) ∧ (σ0 8 j = 2 → σ 23 j = ov j ∧ τ 16 j = -9) ∧ (σ0 8 j = 1 → τ 16 j = σ 23 j ∧ (σ 23 j = -9 ∨ ∃ w, w < n ∧ σ0 8 w = 0 ∧ σ 23 j = nI w))) ∧
  S.Nodup ∧ (∀ j, j ∈ S ↔ j < n ∧ σ0 8 j = 1 ∧ σ 23 j ≠ -9) ∧ σ 5 10 = nI S.length ∧ rep (σ 26) 0 S ∧
  ∀ w, w < n → τ 18 w = nI (fl (σ 23) w S).length ∧ rep (τ 19) (24 * w) (fl (σ 23) w S)
theorem kd3 {n ln : Nat} {σ τ : St} (h : B0 n ln σ τ) {k : Nat} (hk : k < n) : σ 8 k = 0 ∨ σ 8 k = 1 ∨ σ 8 k = 2 := by
  obtain ⟨p, q, a, b, t, u, e1, e2, e3, e4, e5, e6, g1, g2, g3⟩ := h.2.2.2.2.2.2.2.1 k hk
  rw [g2]
  have : q = 0 ∨ q = 1 ∨ q = 2 := by omega
  rcases this with rfl | rfl | rfl
  · exact Or.inl rfl
  · exact Or.inr (Or.inl rfl)
  · exact Or.inr (Or.inr rfl)
theorem J_len {n : Nat} {σ0 τ0 : St} {ov : Nat → Int32} {S : List Nat} {σ τ : St} (hJ : J n σ0 τ0 ov S σ τ) : S.length ≤ n := nodup_len n S hJ.2.2.2.1 (fun x hx => ((hJ.2.2.2.2.1 x).mp hx).1)
theorem fl_len (r : Nat → Int32) (w : Nat) (S : List Nat) : (fl r w S).length ≤ S.length := List.length_filter_le _ _
/-- where the joining begins -/
theorem J_0 {n ln : Nat} {σ0 τ0 : St} {ov : Nat → Int32} (h : B0 n ln σ0 τ0) (hov : OV n σ0 τ0 ov) {σ τ : St} (hc : C1 σ0 ov n σ) (hm : M2 n σ0 τ0 ov n τ) : J n σ0 τ0 ov (Sq (ky σ0) (σ0 8) ov n) σ τ := by
  obtain ⟨fc, h1, h2, h3⟩ := hc
  obtain ⟨fm, g1, g2⟩ := hm
  refine ⟨fc, fm, fun j hj => ?_, Sq_nodup _ _ _ _, fun j => ?_, h2, h3, fun w hw => ?_⟩
  · obtain ⟨a1, a2, a3⟩ := h1 j hj
    obtain ⟨b1, b2, b3⟩ := g1 j hj
    refine ⟨a1, b1, by rw [b3, a2], Or.inl a2, fun q => ⟨by rw [a3, if_pos q], by rw [b2, if_neg (by rw [q]; decide)]⟩, fun q => ⟨by rw [a3, if_neg (by rw [q]; decide)], by rw [b2, if_neg (by rw [q]; decide)]⟩, fun q => ?_⟩
    have e : σ 23 j = ov j := by rw [a3, if_neg (by rw [q]; decide)]
    refine ⟨by rw [b2, if_pos q, e], ?_⟩
    rw [e]; exact (hov j hj).1
  · rw [Sq_mem]
    constructor
    · rintro ⟨q1, q2, q3⟩
      refine ⟨q1, q2, ?_⟩
      rw [(h1 j q1).2.2, if_neg (by rw [q2]; decide)]; exact q3
    · rintro ⟨q1, q2, q3⟩
      refine ⟨q1, q2, ?_⟩
      rw [(h1 j q1).2.2, if_neg (by rw [q2]; decide)] at q3; exact q3
  · have e : fl (σ 23) w (Sq (ky σ0) (σ0 8) ov n) = Lw σ0 ov n w := by
      unfold fl Lw
      refine List.filter_congr (fun j hj => ?_)
      obtain ⟨q1, q2, q3⟩ := (Sq_mem _ _ _ j n).mp hj
      rw [(h1 j q1).2.2, if_neg (by rw [q2]; decide)]
    rw [e]; exact g2 w hw
theorem p_app {σ : St} {T : Nat} (k : Nat) (hT : T < 24) (h : σ 5 10 = nI T) : f_X5_append (nI k) σ = some (ss (ss σ 26 T (nI k)) 5 10 (nI (T + 1))) := by
  unfold f_X5_append
  simp only [lf_ok, sf_ok, h, sd24 hT, ss_c σ (show 5 ≠ 26 by decide), nI_1]
theorem p_wo {σ0 σ : St} (fc : fC σ0 σ) {k : Nat} (hk : k < 24) : f_X5_isWithoutStory (nI k) σ = some (if σ0 8 k = 1 ∧ σ 23 k = -9 then 1 else 0) := by
  unfold f_X5_isWithoutStory
  simp only [ld24 hk, fc 8 (by decide), gb0, gb1]
  by_cases q1 : σ0 8 k = 1 <;> by_cases q2 : σ 23 k = -9 <;> simp [q1, q2]
set_option maxHeartbeats 1000000 in
/-- one text is joined -/
theorem J_step {n ln : Nat} {σ0 τ0 : St} {ov : Nat → Int32} {S : List Nat} {σ τ : St} (h : B0 n ln σ0 τ0) (hJ : J n σ0 τ0 ov S σ τ) (k y : Nat) (hk : k < n) (hy : y < n) (k1 : σ0 8 k = 1) (k2 : σ 23 k = -9) (y1 : σ0 8 y = 1) (y2 : σ 23 y ≠ -9) (K : Int32 → St → Option (Int32 × St)) : ∃ σ' τ', f_X5_joinNext_B31 K (nI k) (nI y) σ = some (1, σ') ∧ (sd τ 17 24 (nI k) (nI y) (fun σ5 => ld σ5 16 24 (nI y) (fun x6 => sd σ5 16 24 (nI k) x6 (fun σ7 => ld σ7 16 24 (nI y) (fun x8 => bs (f_X7_comesBehind x8 (nI k) σ7) (fun σ9 => gb 1 (some ((1 : Int32), σ9)))))))) = some (1, τ') ∧ J n σ0 τ0 ov (S ++ [k]) σ' τ' := by
  have hn := h.1
  obtain ⟨fc, fm, hj, hnd, hmem, ht, hr, hw⟩ := hJ
  have hkS : k ∉ S := fun hm => ((hmem k).mp hm).2.2 k2
  have hlen : S.length + 1 ≤ n := nodup_len n (k :: S) (List.nodup_cons.mpr ⟨hkS, hnd⟩) (fun x hx => by
    rcases List.mem_cons.mp hx with e | e
    · rw [e]; exact hk
    · exact ((hmem x).mp e).1)
  have hyk : y ≠ k := fun e => y2 (by rw [e]; exact k2)
  obtain ⟨w, hwn, hw0, hwy⟩ := ((hj y hy).2.2.2.2.2.2 y1).2.resolve_left y2
  have hty : τ 16 y = nI w := by rw [((hj y hy).2.2.2.2.2.2 y1).1]; exact hwy
  -- the class
  have E1 : f_X5_joinNext_B31 K (nI k) (nI y) σ = some (1, ss (ss (ss (ss σ 22 k (nI y)) 23 k (nI w)) 26 S.length (nI k)) 5 10 (nI (S.length + 1))) := by
    unfold f_X5_joinNext_B31
    rw [if_neg (nI_ne9 (by omega))]
    simp only [sd24 (show k < 24 by omega), ld24 (show y < 24 by omega), ss_c σ (show 23 ≠ 22 by decide), hwy]
    rw [p_app (T := S.length) k (by omega) (by rw [ss_c _ (by decide), ss_c _ (by decide)]; exact ht), bs_ok, gb1]
  -- the reference
  have hlw := fl_len (σ 23) w S
  obtain ⟨τ', b1, b2, b3, b4, b5, b6⟩ := p_beh hn w k hwn (fl (σ 23) w S) (by omega) (ss (ss τ 17 k (nI y)) 16 k (nI w)) (by rw [ss_c _ (by decide), ss_c _ (by decide)]; exact (hw w hwn).1) (by rw [ss_c _ (by decide), ss_c _ (by decide)]; exact (hw w hwn).2)
  refine ⟨_, τ', E1, ?_, ?_⟩
  · simp only [sd24 (show k < 24 by omega), ld24 (show y < 24 by omega), ss_c τ (show 16 ≠ 17 by decide), hty, ss_ne _ _ _ _ _ hyk, b1, bs_ok, gb1]
  · have r23 : ∀ j, ss (ss (ss (ss σ 22 k (nI y)) 23 k (nI w)) 26 S.length (nI k)) 5 10 (nI (S.length + 1)) 23 j = if j = k then nI w else σ 23 j := fun j => by
      rw [ss_c _ (by decide), ss_c _ (by decide), ss_if, ss_c _ (show 23 ≠ 22 by decide)]
    refine ⟨(((fc.st (by decide)).st (by decide)).st (by decide)).st (by decide), ⟨?_, ?_, ?_⟩, fun j hjn => ?_, ?_, fun j => ?_, ?_, ?_, fun v hv => ?_⟩
    · rw [b6 0 (by decide) (by decide), ss_c _ (by decide), ss_c _ (by decide)]; exact fm.1
    · rw [b6 0 (by decide) (by decide), ss_c _ (by decide), ss_c _ (by decide)]; exact fm.2.1
    · intro c c1 c2
      rw [b6 c (by omega) (by omega), ss_c _ (by omega), ss_c _ (by omega)]; exact fm.2.2 c c1 c2
    · obtain ⟨a1, a2, a3, a4, a5, a6, a7⟩ := hj j hjn
      rw [r23 j, b6 15 (by decide) (by decide), b6 16 (by decide) (by decide), b6 17 (by decide) (by decide)]
      rw [ss_c _ (show 21 ≠ 5 by decide), ss_c _ (show 21 ≠ 26 by decide), ss_c _ (show 21 ≠ 23 by decide), ss_c _ (show 21 ≠ 22 by decide), ss_c _ (show 22 ≠ 5 by decide), ss_c _ (show 22 ≠ 26 by decide), ss_c _ (show 22 ≠ 23 by decide), ss_if, ss_c _ (show 15 ≠ 16 by decide), ss_c _ (show 15 ≠ 17 by decide), ss_if, ss_c _ (show 16 ≠ 17 by decide), ss_c _ (show 17 ≠ 16 by decide), ss_if]
      by_cases q : j = k
      · subst q
        rw [if_pos rfl, if_pos rfl, if_pos rfl, if_pos rfl]
        exact ⟨a1, a2, rfl, Or.inr k1, fun z => absurd (z.symm.trans k1) (by decide), fun z => absurd (z.symm.trans k1) (by decide), fun _ => ⟨rfl, Or.inr ⟨w, hwn, hw0, rfl⟩⟩⟩
      · rw [if_neg q, if_neg q, if_neg q, if_neg q]
        exact ⟨a1, a2, a3, a4, a5, a6, a7⟩
    · rw [List.nodup_append]
      exact ⟨hnd, by simp, fun a ha b hb => by
        rw [List.mem_singleton.mp hb]
        exact fun e => hkS (e ▸ ha)⟩
    · rw [r23 j, List.mem_append, hmem j, List.mem_singleton]
      by_cases q : j = k
      · subst q
        rw [if_pos rfl]
        exact ⟨fun _ => ⟨hk, k1, nI_ne9 (by omega)⟩, fun _ => Or.inr rfl⟩
      · rw [if_neg q]
        exact ⟨fun z => z.resolve_right q, fun z => Or.inl z⟩
    · rw [ss_same, List.length_append]; rfl
    · rw [ss_c _ (by decide)]
      exact rep_push hr (fun i hi => by rw [ss_ne _ _ _ _ _ (by omega), ss_c _ (by decide), ss_c _ (by decide)]) (by rw [Nat.zero_add, ss_same])
    · have e : fl (ss (ss (ss (ss σ 22 k (nI y)) 23 k (nI w)) 26 S.length (nI k)) 5 10 (nI (S.length + 1)) 23) v (S ++ [k]) = fl (σ 23) v S ++ (if w = v then [k] else []) := by
        unfold fl
        rw [List.filter_append]
        congr 1
        · refine List.filter_congr (fun j hjS => ?_)
          rw [r23 j, if_neg (show ¬ j = k from fun e => hkS (e ▸ hjS))]
        · simp only [List.filter_cons, List.filter_nil, r23 k, if_true, nI_eq (show w < 2 ^ 31 by omega) (show v < 2 ^ 31 by omega)]
          by_cases z : w = v <;> simp [z]
      rw [e]
      by_cases z : w = v
      · subst z
        rw [if_pos rfl, List.length_append]
        exact ⟨b3, b2⟩
      · rw [if_neg z, List.append_nil, b4 v (fun e => z e.symm), ss_c _ (by decide), ss_c _ (by decide)]
        refine ⟨(hw v hv).1, rep_kept (hw v hv).2 (fun i hi => ?_)⟩
        have := fl_len (σ 23) v S
        rw [b5 _ (by omega), ss_c _ (by decide), ss_c _ (by decide)]
theorem J_hr {n ln : Nat} {σ0 τ0 : St} {ov : Nat → Int32} {S : List Nat} {σ τ : St} (hJ : J n σ0 τ0 ov S σ τ) : Hr n σ τ := fun k hk q => ((hJ.2.2.1 k hk).2.2.2.2.2.2 (by rw [← hJ.1 8 (by decide)]; exact q)).1
set_option maxHeartbeats 1000000 in
theorem p_jL {n ln : Nat} {σ0 τ0 : St} {ov : Nat → Int32} {S : List Nat} {σ τ : St} (h : B0 n ln σ0 τ0) (hJ : J n σ0 τ0 ov S σ τ) : ∀ (d k f : Nat), k + d = n → d < f → (f_X5_joinNext_L2 f (nI k) σ = some (0, σ) ∧ f_X7_joins_L2 f (nI k) τ = some (0, τ)) ∨ ∃ x σ' τ', f_X5_joinNext_L2 f (nI k) σ = some (1, σ') ∧ f_X7_joins_L2 f (nI k) τ = some (1, τ') ∧ J n σ0 τ0 ov (S ++ [x]) σ' τ' := by
  have hn := h.1
  have hB := (h.C hJ.1).M hJ.2.1
  have c1 := hB.2.2.1
  have c2 := hB.2.2.2.1
  have e8 : σ 8 = σ0 8 := hJ.1 8 (by decide)
  intro d
  induction d with
  | zero =>
    intro k f hk hf
    obtain ⟨f, rfl⟩ : ∃ g, f = g + 1 := ⟨f - 1, by omega⟩
    left
    constructor
    · rw [f_X5_joinNext_L2, lf_ok, c1, if_pos (nI_le (by omega) (by omega)), gb0]
    · rw [f_X7_joins_L2, lf_ok, c2, if_pos (nI_le (by omega) (by omega)), gb0]
  | succ d ih =>
    intro k f hk hf
    obtain ⟨f, rfl⟩ : ∃ g, f = g + 1 := ⟨f - 1, by omega⟩
    have hk1 : k < n := by omega
    have hk24 : k < 24 := by omega
    have e2 : τ 2 k = σ0 8 k := by rw [(hB.2.2.2.2.2.2.1 k hk1).2.1, e8]
    have ih' := ih (k + 1) f (by omega) (by omega)
    have goon : f_X5_joinNext_B31 (f_X5_joinNext_L2 f) (nI k) (-9) σ = f_X5_joinNext_L2 f (nI (k + 1)) σ := by
      unfold f_X5_joinNext_B31; rw [if_pos rfl, nI_1]
    rw [f_X5_joinNext_L2, f_X7_joins_L2]
    simp only [lf_ok, c1, c2, if_neg (nle_of hk1 (show n < 2 ^ 31 by omega)), p_wo hJ.1 hk24, bi_ok, ld24 hk24, e2, nI_1]
    by_cases q1 : σ0 8 k = 1
    · have e16 := ((hJ.2.2.1 k hk1).2.2.2.2.2.2 q1).1
      rw [if_pos q1, e16]
      by_cases q2 : σ 23 k = -9
      · have w1 : (if σ0 8 k = 1 ∧ σ 23 k = -9 then (1 : Int32) else 0) = 1 := if_pos ⟨q1, q2⟩
        rw [w1, if_neg (by decide), if_pos q2]
        obtain ⟨r, hr, r1, r2⟩ := p_tk hB (J_hr (ln := ln) hJ) k hk1
        rw [r1, r2, bi_ok, bi_ok]
        rcases hr with hr | ⟨y, y0, y1, y2, hr⟩
        · subst hr
          rw [if_pos rfl, goon]; exact ih'
        · subst hr
          rw [if_neg (nI_ne9 (by omega))]
          obtain ⟨σ', τ', g1, g2, g3⟩ := J_step h hJ k y hk1 y0 q1 q2 (by rw [← e8]; exact y1) y2 (f_X5_joinNext_L2 f)
          exact Or.inr ⟨k, σ', τ', g1, g2, g3⟩
      · have w1 : (if σ0 8 k = 1 ∧ σ 23 k = -9 then (1 : Int32) else 0) = 0 := if_neg (fun z => q2 z.2)
        rw [w1, if_pos rfl, if_neg q2, goon]; exact ih'
    · have w1 : (if σ0 8 k = 1 ∧ σ 23 k = -9 then (1 : Int32) else 0) = 0 := if_neg (fun z => q1 z.1)
      rw [w1, if_pos rfl, if_neg q1, goon]; exact ih'
/-- all that can be joined are -/
theorem p_jw {n ln : Nat} {σ0 τ0 : St} {ov : Nat → Int32} (h : B0 n ln σ0 τ0) : ∀ (d r f g : Nat) (S : List Nat) (σ τ : St), J n σ0 τ0 ov S σ τ → S.length + d = n → r ≤ S.length → d < f → d + 1 < g → ∃ S1 σ1 τ1, J n σ0 τ0 ov S1 σ1 τ1 ∧ f_X5_build_L62 f (nI r) σ = f_X5_build_L88 64 0 σ1 ∧ f_X7_findStories_L109 g 1 τ = f_X7_findStories_L128 64 0 (ss τ1 0 21 0) := by
  have hn := h.1
  intro d
  induction d with
  | zero =>
    intro r f g S σ τ hJ hd hr hf hg
    obtain ⟨f, rfl⟩ : ∃ z, f = z + 1 := ⟨f - 1, by omega⟩
    obtain ⟨g, rfl⟩ : ∃ z, g = z + 2 := ⟨g - 2, by omega⟩
    have c1 : σ 1 0 = nI n := ((h.C hJ.1).M hJ.2.1).2.2.1
    have hno : f_X5_joinNext σ = some (0, σ) ∧ f_X7_joins τ = some (0, τ) := by
      rcases p_jL h hJ n 0 64 (by omega) (by omega) with z | ⟨x, σ', τ', z1, z2, z3⟩
      · exact z
      · have := J_len z3
        rw [List.length_append] at this
        simp at this
        omega
    refine ⟨S, σ, τ, hJ, ?_, ?_⟩
    · rw [f_X5_build_L62, lf_ok, c1]
      by_cases q : nI n ≤ nI r
      · rw [if_pos q]
      · rw [if_neg q, hno.1, bp_ok, if_pos rfl]
    · rw [f_X7_findStories_L109, if_neg (by decide), hno.2, bp_ok, f_X7_findStories_L109, if_pos rfl, sf_ok]
  | succ d ih =>
    intro r f g S σ τ hJ hd hr hf hg
    obtain ⟨f, rfl⟩ : ∃ z, f = z + 1 := ⟨f - 1, by omega⟩
    obtain ⟨g, rfl⟩ : ∃ z, g = z + 2 := ⟨g - 2, by omega⟩
    have c1 : σ 1 0 = nI n := ((h.C hJ.1).M hJ.2.1).2.2.1
    rw [f_X5_build_L62, lf_ok, c1, if_neg (nle_of (show r < n by omega) (by omega))]
    rcases p_jL h hJ n 0 64 (by omega) (by omega) with ⟨z1, z2⟩ | ⟨x, σ', τ', z1, z2, z3⟩
    · have z1' : f_X5_joinNext σ = some (0, σ) := z1
      have z2' : f_X7_joins τ = some (0, τ) := z2
      refine ⟨S, σ, τ, hJ, ?_, ?_⟩
      · rw [z1', bp_ok, if_pos rfl]
      · rw [f_X7_findStories_L109, if_neg (by decide), z2', bp_ok, f_X7_findStories_L109, if_pos rfl, sf_ok]
    · have z1' : f_X5_joinNext σ = some (1, σ') := z1
      have z2' : f_X7_joins τ = some (1, τ') := z2
      rw [f_X7_findStories_L109, if_neg (by decide), z1', z2', bp_ok, bp_ok, if_neg (by decide), nI_1]
      exact ih (r + 1) f (g + 1) (S ++ [x]) σ' τ' z3 (by simp; omega) (by simp; omega) (by omega) (by omega)
