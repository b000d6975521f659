/-! The state of one side: cell by cell, index by index; what a pure function may ask of it. A guard that fails gives none. -/
abbrev St : Type := Nat → Nat → Int32
def ss (σ : St) (c k : Nat) (v : Int32) : St := fun c' => if c' = c then upd (σ c) k v else σ c'
def ld {α : Type} (σ : St) (c n : Nat) (i : Int32) (k : Int32 → Option α) : Option α := if i < 0 ∨ n ≤ i.toNatClampNeg then none else k (σ c i.toNatClampNeg)
def sd {α : Type} (σ : St) (c n : Nat) (i v : Int32) (k : St → Option α) : Option α := if i < 0 ∨ n ≤ i.toNatClampNeg then none else k (ss σ c i.toNatClampNeg v)
def lf {α : Type} (σ : St) (c j : Nat) (k : Int32 → Option α) : Option α := k (σ c j)
def sf {α : Type} (σ : St) (c j : Nat) (v : Int32) (k : St → Option α) : Option α := k (ss σ c j v)
def gb {α : Type} (b : Int32) (k : Option α) : Option α := if b = 0 ∨ b = 1 then k else none
def bi {α : Type} (o : Option Int32) (k : Int32 → Option α) : Option α := match o with
  | none => none
  | some r => k r
def bs {α : Type} (o : Option St) (k : St → Option α) : Option α := match o with
  | none => none
  | some r => k r
def bp {α : Type} (o : Option (Int32 × St)) (k : Int32 → St → Option α) : Option α := match o with
  | none => none
  | some r => k r.1 r.2
theorem ld_some {α : Type} {σ : St} {c n : Nat} {i : Int32} {k : Int32 → Option α} {o : α} (h : ld σ c n i k = some o) : vp_in i n ∧ ∃ x : Int32, x = σ c i.toNatClampNeg ∧ k x = some o := by
  unfold ld at h
  by_cases q : i < 0 ∨ n ≤ i.toNatClampNeg
  · rw [if_pos q] at h; cases h
  · rw [if_neg q] at h; exact ⟨q, _, rfl, h⟩
theorem sd_some {α : Type} {σ : St} {c n : Nat} {i v : Int32} {k : St → Option α} {o : α} (h : sd σ c n i v k = some o) : vp_in i n ∧ ∃ x : St, x = ss σ c i.toNatClampNeg v ∧ k x = some o := by
  unfold sd at h
  by_cases q : i < 0 ∨ n ≤ i.toNatClampNeg
  · rw [if_pos q] at h; cases h
  · rw [if_neg q] at h; exact ⟨q, _, rfl, h⟩
theorem lf_some {α : Type} {σ : St} {c j : Nat} {k : Int32 → Option α} {o : α} (h : lf σ c j k = some o) : ∃ x : Int32, x = σ c j ∧ k x = some o := ⟨_, rfl, h⟩
theorem sf_some {α : Type} {σ : St} {c j : Nat} {v : Int32} {k : St → Option α} {o : α} (h : sf σ c j v k = some o) : ∃ x : St, x = ss σ c j v ∧ k x = some o := ⟨_, rfl, h⟩
theorem gb_some {α : Type} {b : Int32} {k : Option α} {o : α} (h : gb b k = some o) : (b = 0 ∨ b = 1) ∧ k = some o := by
  unfold gb at h
  by_cases q : b = 0 ∨ b = 1
  · rw [if_pos q] at h; exact ⟨q, h⟩
  · rw [if_neg q] at h; cases h
theorem bi_some {α : Type} {o : Option Int32} {k : Int32 → Option α} {x : α} (h : bi o k = some x) : ∃ r : Int32, o = some r ∧ k r = some x := by
  cases o with
  | none => cases h
  | some r => exact ⟨r, rfl, h⟩
theorem bs_some {α : Type} {o : Option St} {k : St → Option α} {x : α} (h : bs o k = some x) : ∃ r : St, o = some r ∧ k r = some x := by
  cases o with
  | none => cases h
  | some r => exact ⟨r, rfl, h⟩
theorem bp_some {α : Type} {o : Option (Int32 × St)} {k : Int32 → St → Option α} {x : α} (h : bp o k = some x) : ∃ (r : Int32) (σ : St), o = some (r, σ) ∧ k r σ = some x := by
  cases o with
  | none => cases h
  | some r => exact ⟨r.1, r.2, rfl, h⟩
theorem if_t {α : Sort _} {c : Prop} [Decidable c] {a b o : α} (q : c) (h : (if c then a else b) = o) : a = o := by
  rw [if_pos q] at h; exact h
theorem if_f {α : Sort _} {c : Prop} [Decidable c] {a b o : α} (q : ¬ c) (h : (if c then a else b) = o) : b = o := by
  rw [if_neg q] at h; exact h
/-! addresses apart; the cells of one side -/
def nj (ad : Nat → Nat) (n : Nat) : Prop := ∀ i j, i < n → j < n → ad i = ad j → i = j
def aw (ad : Nat → Nat) (n : Nat) : Nat → Prop := fun q => ∃ j, j < n ∧ q = ad j
theorem wd_D {ad : Nat → Nat} {n : Nat} (hN : nj ad n) {ws : va_W} (h : ws.map (fun q => q.1) = (List.range n).map ad) : va_D (aw ad n) ws := by
  have at' : ∀ (k : Nat) (q : Nat × va_E), ws[k]? = some q → k < n ∧ q.1 = ad k := by
    intro k q hk
    have h1 : (ws.map (fun q => q.1))[k]? = some q.1 := by rw [List.getElem?_map, hk]; rfl
    rw [h, List.getElem?_map] at h1
    by_cases hn : k < n
    · rw [List.getElem?_range hn] at h1
      exact ⟨hn, (Option.some.inj h1).symm⟩
    · rw [List.getElem?_eq_none (by simpa using Nat.not_lt.mp hn)] at h1
      cases h1
  refine ⟨fun i j x y hx hy e => ?_, fun k q hk => ?_⟩
  · obtain ⟨h1, h2⟩ := at' i x hx
    obtain ⟨h3, h4⟩ := at' j y hy
    exact hN i j h1 h3 (by rw [← h2, ← h4]; exact e)
  · obtain ⟨h1, h2⟩ := at' k q hk
    exact ⟨k, h1, h2⟩
/-! what a method knows: the machine, its code, the words, its end -/
def cx (p : Program) (s : State) (m : MethodId) (meth : Method) (c : Code) (args : Array Value) (cc : ByteArray) (nL : Nat) (ret : Option FieldType) (own : String) (D : va_G) (tys : List (ClassId × FieldType)) : Prop :=
  p.tables.exec = Jvm.exec ∧ c.code = cc ∧ c.maxLocals = nL ∧ s.vm.findClass own = some m.cls ∧ (∀ w ∈ wsL_law, w.before args s = true) ∧ meth.sig.returnType = ret ∧ meth.locks = false ∧ va_K D vwCl tys s
def pw (D : va_G) (wd : St → va_W) (tys : List (ClassId × FieldType)) (σ : St) : State → Prop := fun U => va_P D vwCl (wd σ) U.heap ∧ va_K D vwCl tys U
abbrev qI (D : va_G) (wd : St → va_W) (A : Nat → Prop) (r : Int32) (σ : St) : Array Value → State → Outcome → State → Prop := va_Qi (fun (r2 : Int32) (_ : Unit) => r2 = r) (fun _ t => va_P D vwCl (wd σ) t.heap) A
abbrev qV (D : va_G) (wd : St → va_W) (A : Nat → Prop) (σ : St) : Array Value → State → Outcome → State → Prop := va_Qv (fun (_ : Unit) => True) (fun _ t => va_P D vwCl (wd σ) t.heap) A
theorem met_mk {l : Launch} {y : MethodName} {cc : ByteArray} {maxL : Nat} {ret : Option FieldType} {own : String} {rm : Room} {D : va_G} {wd : St → va_W} {tys : List (ClassId × FieldType)} {σ : St} {vs : List Value} {Qc : Array Value → State → Outcome → State → Prop} {A : Nat → Prop} (hy : plainName y.cls = true) (ho : y.cls = own) (hn : (lg_sl vs).length ≤ maxL)
    (body : ∀ (p : Program) (e : Env) (s : State) (m : MethodId) (below : List Frame) (meth : Method) (c : Code), cx p s m meth c vs.toArray cc maxL ret own D tys → va_P D vwCl (wd σ) s.heap → ∀ ls : Array Slot, lv_has ls maxL (lv_args 0 vs) → W p l e rm s m vs.toArray below meth c s.heap [] 0 0 (MQ below Qc vs.toArray s 0 0 A) (F0 m 0 ls [])) :
    Met l y (.code y cc maxL ret :: wsL_law) rm (va_Pc vs (pw D wd tys σ)) Qc 0 0 A := by
  refine Met.ofW (cc := cc) (maxL := maxL) (ret := ret) hy rfl ?_
  intro p e s m args below meth c s₁ B hml hv
  obtain ⟨rfl, hP, hK⟩ := hv
  have hts := atoms_spec (ws := .code y cc maxL ret :: wsL_law) B.pre
  have hown : s.vm.findClass own = some m.cls := by rw [← ho]; exact findClass_of_methodNamed B.named
  have hl := lv_entry vs (n := maxL) hn
  rw [lg_entry_eq]
  exact body p e s m below meth c ⟨B.exec, B.bytes, hml, hown, fun w h => hts w (List.mem_cons_of_mem _ h), B.returns, B.notSynchronized, hK⟩ hP _ hl
section BASE
variable {p : Program} {l : Launch} {e : Env} {R : Room} {s : State} {m : MethodId} {args : Array Value} {below : List Frame} {meth : Method} {c : Code} {D : va_G} {H : Heap} {locs : List Loc} {Q : State → Prop} {cc : ByteArray} {nL : Nat} {ret : Option FieldType} {own : String} {tys : List (ClassId × FieldType)} {wd : St → va_W} {A : Nat → Prop} {pc : Nat} {ls : Array Slot} {rest st0 : List Value}
theorem pw_blind {vs : List Value} {σ : St} : FrameBlind (va_Pc vs (pw D wd tys σ)) := fun a U g mk q => ⟨q.1, q.2.1, va_K.moved (u := U) (U := U.calling g mk a) (Vm.Alike.refl U.vm) q.2.2⟩
theorem pw_at {vs : List Value} {σ : St} (hK : va_K D vwCl tys s) (hP : va_P D vwCl (wd σ) H) : ∀ U : State, U.heap = H → s.WarmedH U.vm → va_Pc vs (pw D wd tys σ) vs.toArray U := fun U hU hW => ⟨rfl, by rw [hU]; exact hP, va_K.moved hW.alike hK⟩
theorem kVi {y : MethodName} {bytes : ByteArray} {maxL n index : Nat} {ret' : Option FieldType} {ws : List Cond} {rm : Room} {C : String} {b : Nat} {As : List Value} {lv : List (Nat × Value)} {σ σ' : St} {r : Int32} {q0 ci : Nat} {T : u_T} {N : Nat} {fs : List Value}
    (X : cx p s m meth c args cc nL ret own D tys) (hM : Met l y ws rm (va_Pc (.ref b :: As) (pw D wd tys σ)) (qI D wd A r σ') 0 0 A) (cw : CallW R s args own C index y bytes maxL ret' ws rm 0 0 n) (hc : vwCl[ci]? = some (C, T, N)) (he : (wd σ)[q0]? = some (b, .inr (ci, fs))) (hP : va_P D vwCl (wd σ) H) (hS : va_S A s.heap H locs) (hl : lv_has ls nL lv) (hn : As.length = n) (hst : st0 = As.reverse ++ .ref b :: rest) (hro : (rest.map fun v => v.category).sum ≤ 8) (hdg : decode cc pc = .ok (.invokevirtual index, 3))
    (kk : ∀ (H1 : Heap) (locs1 : List Loc), va_P D vwCl (wd σ') H1 → va_S A s.heap H1 locs1 → W p l e R s m args below meth c H1 locs1 0 0 Q (F0 m (pc + 3) ls (.int r :: rest))) : W p l e R s m args below meth c H locs 0 0 Q (F0 m pc ls st0) := by
  obtain ⟨hx, hb, hml, hown, hts, hr, hlk, hK⟩ := X
  refine va_calli (va_runV (As := As) (rest := rest) ⟨hx, hb, hml, hown, hts⟩ hM cw ⟨pw_blind, va_recv hK hP hc he, pw_at hK hP⟩ rfl hn hl.1 hst (lv_room hro) hdg ⟨Nat.zero_le _, Nat.zero_le _⟩) hS (fun q _ h => h) (fun q h => h) (fun r2 u t H1 locs1 ht hvm hw hB hz hk hS1 => ?_)
  have hw : r2 = r := hw
  subst hw
  exact kk H1 locs1 (by rw [← ht]; exact hB) hS1
theorem kVv {y : MethodName} {bytes : ByteArray} {maxL n index : Nat} {ret' : Option FieldType} {ws : List Cond} {rm : Room} {C : String} {b : Nat} {As : List Value} {lv : List (Nat × Value)} {σ σ' : St} {q0 ci : Nat} {T : u_T} {N : Nat} {fs : List Value}
    (X : cx p s m meth c args cc nL ret own D tys) (hM : Met l y ws rm (va_Pc (.ref b :: As) (pw D wd tys σ)) (qV D wd A σ') 0 0 A) (cw : CallW R s args own C index y bytes maxL ret' ws rm 0 0 n) (hc : vwCl[ci]? = some (C, T, N)) (he : (wd σ)[q0]? = some (b, .inr (ci, fs))) (hP : va_P D vwCl (wd σ) H) (hS : va_S A s.heap H locs) (hl : lv_has ls nL lv) (hn : As.length = n) (hst : st0 = As.reverse ++ .ref b :: rest) (hro : (rest.map fun v => v.category).sum ≤ 8) (hdg : decode cc pc = .ok (.invokevirtual index, 3))
    (kk : ∀ (H1 : Heap) (locs1 : List Loc), va_P D vwCl (wd σ') H1 → va_S A s.heap H1 locs1 → W p l e R s m args below meth c H1 locs1 0 0 Q (F0 m (pc + 3) ls rest)) : W p l e R s m args below meth c H locs 0 0 Q (F0 m pc ls st0) := by
  obtain ⟨hx, hb, hml, hown, hts, hr, hlk, hK⟩ := X
  refine va_callv (va_runV (As := As) (rest := rest) ⟨hx, hb, hml, hown, hts⟩ hM cw ⟨pw_blind, va_recv hK hP hc he, pw_at hK hP⟩ rfl hn hl.1 hst (lv_room hro) hdg ⟨Nat.zero_le _, Nat.zero_le _⟩) hS (fun q _ h => h) (fun q h => h) (fun u t H1 locs1 ht hvm hw hB hz hk hS1 => ?_)
  exact kk H1 locs1 (by rw [← ht]; exact hB) hS1
theorem kSi {y : MethodName} {bytes : ByteArray} {maxL n index : Nat} {ret' : Option FieldType} {ws : List Cond} {rm : Room} {As : List Value} {lv : List (Nat × Value)} {σ σ' : St} {r : Int32}
    (X : cx p s m meth c args cc nL ret own D tys) (hM : Met l y ws rm (va_Pc As (pw D wd tys σ)) (qI D wd A r σ') 0 0 A) (cw : CallB R s args own index y bytes maxL ret' ws rm 0 0 n ∧ (Cond.static y).before args s = true) (hP : va_P D vwCl (wd σ) H) (hS : va_S A s.heap H locs) (hl : lv_has ls nL lv) (hn : As.length = n) (hst : st0 = As.reverse ++ rest) (hro : (rest.map fun v => v.category).sum ≤ 8) (hdg : decode cc pc = .ok (.invokestatic index, 3))
    (kk : ∀ (H1 : Heap) (locs1 : List Loc), va_P D vwCl (wd σ') H1 → va_S A s.heap H1 locs1 → W p l e R s m args below meth c H1 locs1 0 0 Q (F0 m (pc + 3) ls (.int r :: rest))) : W p l e R s m args below meth c H locs 0 0 Q (F0 m pc ls st0) := by
  obtain ⟨hx, hb, hml, hown, hts, hr, hlk, hK⟩ := X
  refine va_calli (va_runS (As := As) (rest := rest) ⟨hx, hb, hml, hown, hts⟩ hM cw ⟨pw_blind, pw_at hK hP⟩ rfl hn hl.1 hst (lv_room hro) hdg ⟨Nat.zero_le _, Nat.zero_le _⟩) hS (fun q _ h => h) (fun q h => h) (fun r2 u t H1 locs1 ht hvm hw hB hz hk hS1 => ?_)
  have hw : r2 = r := hw
  subst hw
  exact kk H1 locs1 (by rw [← ht]; exact hB) hS1
/-! a method's end -/
theorem rI {r r0 : Int32} {σ : St} (X : cx p s m meth c args cc nL (some .int) own D tys) (hP : va_P D vwCl (wd σ) H) (hS : va_S A s.heap H locs) (h : some r0 = some r) (hdg : decode cc pc = .ok (.ireturn, 1)) : W p l e R s m args below meth c H locs 0 0 (MQ below (qI D wd A r σ) args s 0 0 A) (F0 m pc ls [.int r0]) := by
  obtain ⟨hx, hb, hml, hown, hts, hr, hlk, hK⟩ := X
  cases h
  exact W.iret (v := r) hx hb hr (fun t ht hW => ⟨⟨r, (), rfl, rfl, by have h9 := hP; rw [← ht] at h9; exact h9⟩, hS.F ht⟩) hS.2.2 hdg
theorem rZ {r r0 : Int32} {σ : St} (X : cx p s m meth c args cc nL (some .boolean) own D tys) (hP : va_P D vwCl (wd σ) H) (hS : va_S A s.heap H locs) (h : gb r0 (some r0) = some r) (hdg : decode cc pc = .ok (.ireturn, 1)) : W p l e R s m args below meth c H locs 0 0 (MQ below (qI D wd A r σ) args s 0 0 A) (F0 m pc ls [.int r0]) := by
  obtain ⟨hx, hb, hml, hown, hts, hr, hlk, hK⟩ := X
  obtain ⟨hz, h⟩ := gb_some h
  cases h
  exact W.zret (v := r) (ty := .boolean) hx hb hr (by rcases hz with rfl | rfl <;> rfl) (fun t ht hW => ⟨⟨r, (), rfl, rfl, by have h9 := hP; rw [← ht] at h9; exact h9⟩, hS.F ht⟩) hS.2.2 hdg
theorem rIe {r r0 : Int32} {σ σ' : St} (X : cx p s m meth c args cc nL (some .int) own D tys) (hP : va_P D vwCl (wd σ) H) (hS : va_S A s.heap H locs) (h : some (r0, σ) = some (r, σ')) (hdg : decode cc pc = .ok (.ireturn, 1)) : W p l e R s m args below meth c H locs 0 0 (MQ below (qI D wd A r σ') args s 0 0 A) (F0 m pc ls [.int r0]) := by
  cases h
  exact rI X hP hS rfl hdg
theorem rZe {r r0 : Int32} {σ σ' : St} (X : cx p s m meth c args cc nL (some .boolean) own D tys) (hP : va_P D vwCl (wd σ) H) (hS : va_S A s.heap H locs) (h : gb r0 (some (r0, σ)) = some (r, σ')) (hdg : decode cc pc = .ok (.ireturn, 1)) : W p l e R s m args below meth c H locs 0 0 (MQ below (qI D wd A r σ') args s 0 0 A) (F0 m pc ls [.int r0]) := by
  obtain ⟨hz, h⟩ := gb_some h
  cases h
  exact rZ X hP hS (by unfold gb; rw [if_pos hz]) hdg
theorem rVe {σ σ' : St} (X : cx p s m meth c args cc nL none own D tys) (hP : va_P D vwCl (wd σ) H) (hS : va_S A s.heap H locs) (h : some σ = some σ') (hdg : decode cc pc = .ok (.return_, 1)) : W p l e R s m args below meth c H locs 0 0 (MQ below (qV D wd A σ') args s 0 0 A) (F0 m pc ls []) := by
  obtain ⟨hx, hb, hml, hown, hts, hr, hlk, hK⟩ := X
  cases h
  exact W.vret hx hb hr (fun t ht hW => ⟨⟨(), rfl, trivial, by have h9 := hP; rw [← ht] at h9; exact h9⟩, hS.F ht⟩) hS.2.2 hdg
/-! arrays -/
theorem ldr {σ : St} {a q0 t0 n : Nat} {cA : ClassId} {i x : Int32} (X : cx p s m meth c args cc nL ret own D tys) (hP : va_P D vwCl (wd σ) H) (ha : (wd σ)[q0]? = some (a, .inl (cA, n, .inl (σ q0)))) (ht : tys[t0]? = some (cA, .int)) (hin : vp_in i n) (hv : x = σ q0 i.toNatClampNeg) (hdg : decode cc pc = .ok (.iaload, 1))
    (kk : W p l e R s m args below meth c H locs 0 0 Q (F0 m (pc + 1) ls (.int x :: rest))) : W p l e R s m args below meth c H locs 0 0 Q (F0 m pc ls (.int i :: .ref a :: rest)) := by
  subst hv
  exact va_iald X.1 X.2.1 X.2.2.2.2.2.2.2 hP q0 t0 ha ht hin hdg kk
theorem ldz {σ : St} {a q0 t0 n : Nat} {cA : ClassId} {i x : Int32} (X : cx p s m meth c args cc nL ret own D tys) (hP : va_P D vwCl (wd σ) H) (ha : (wd σ)[q0]? = some (a, .inl (cA, n, .inl (σ q0)))) (ht : tys[t0]? = some (cA, .boolean)) (hin : vp_in i n) (hv : x = σ q0 i.toNatClampNeg) (hdg : decode cc pc = .ok (.baload, 1))
    (kk : W p l e R s m args below meth c H locs 0 0 Q (F0 m (pc + 1) ls (.int x :: rest))) : W p l e R s m args below meth c H locs 0 0 Q (F0 m pc ls (.int i :: .ref a :: rest)) := by
  subst hv
  exact va_zald X.1 X.2.1 X.2.2.2.2.2.2.2 hP q0 t0 ha ht hin hdg kk
theorem str {σ σ1 : St} {a q0 t0 n : Nat} {cA : ClassId} {i x : Int32} (X : cx p s m meth c args cc nL ret own D tys) (hP : va_P D vwCl (wd σ) H) (hD : va_D A (wd σ)) (hS : va_S A s.heap H locs) (ha : (wd σ)[q0]? = some (a, .inl (cA, n, .inl (σ q0)))) (hs : (wd σ).set q0 (a, .inl (cA, n, .inl (upd (σ q0) i.toNatClampNeg x))) = wd (ss σ q0 i.toNatClampNeg x)) (ht : tys[t0]? = some (cA, .int)) (hin : vp_in i n) (hv : σ1 = ss σ q0 i.toNatClampNeg x) (hdg : decode cc pc = .ok (.iastore, 1))
    (kk : ∀ (H1 : Heap) (locs1 : List Loc), va_P D vwCl (wd σ1) H1 → va_S A s.heap H1 locs1 → W p l e R s m args below meth c H1 locs1 0 0 Q (F0 m (pc + 1) ls rest)) : W p l e R s m args below meth c H locs 0 0 Q (F0 m pc ls (.int x :: .int i :: .ref a :: rest)) := by
  subst hv
  refine va_iast X.1 X.2.1 X.2.2.2.2.2.2.2 hP hD hS q0 t0 ha ht hin hdg (fun H1 locs1 h1 h2 h3 => ?_)
  rw [hs] at h1
  exact kk H1 locs1 h1 h3
theorem stz {σ σ1 : St} {a q0 t0 n : Nat} {cA : ClassId} {i x : Int32} (X : cx p s m meth c args cc nL ret own D tys) (hP : va_P D vwCl (wd σ) H) (hD : va_D A (wd σ)) (hS : va_S A s.heap H locs) (ha : (wd σ)[q0]? = some (a, .inl (cA, n, .inl (σ q0)))) (hs : (wd σ).set q0 (a, .inl (cA, n, .inl (upd (σ q0) i.toNatClampNeg x))) = wd (ss σ q0 i.toNatClampNeg x)) (ht : tys[t0]? = some (cA, .boolean)) (hz : x = 0 ∨ x = 1) (hin : vp_in i n) (hv : σ1 = ss σ q0 i.toNatClampNeg x) (hdg : decode cc pc = .ok (.bastore, 1))
    (kk : ∀ (H1 : Heap) (locs1 : List Loc), va_P D vwCl (wd σ1) H1 → va_S A s.heap H1 locs1 → W p l e R s m args below meth c H1 locs1 0 0 Q (F0 m (pc + 1) ls rest)) : W p l e R s m args below meth c H locs 0 0 Q (F0 m pc ls (.int x :: .int i :: .ref a :: rest)) := by
  subst hv
  have hn : vp_nar .boolean x = x := by rcases hz with rfl | rfl <;> rfl
  refine va_zast X.1 X.2.1 X.2.2.2.2.2.2.2 hP hD hS q0 t0 ha ht hin hdg (fun H1 locs1 h1 h2 h3 => ?_)
  rw [hn, hs] at h1
  exact kk H1 locs1 h1 h3
/-! a switch from 0 on: none of its numbers -/
theorem sw_out {x : Int32} (n : Nat) (hn : n < 2 ^ 31) (h : ∀ j, j ≤ n → x ≠ nI j) : x.toInt < 0 ∨ (n : Int) < x.toInt := by
  by_cases h0 : x < 0
  · exact Or.inl (by simpa using Int32.lt_iff_toInt_lt.mp h0)
  · obtain ⟨j, hj, rfl⟩ := nI_of h0
    right
    rw [nI_toInt hj]
    rcases Nat.lt_or_ge n j with q | q
    · exact_mod_cast q
    · exact absurd rfl (h j q)
end BASE
