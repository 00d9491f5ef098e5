/-! ===== calls ===== -/
theorem va_AOA.moved {ty : FieldType} {s U : State} (hvm : s.vm.Alike U.vm) (h : va_AOA ty s) : va_AOA ty U := by
  have h1 : (Cond.arrayOver (.array ty)).before #[] (s.setVm U.vm) = true := by
    rw [Cond.arrayOver_setVmC hvm]
    exact h
  simp only [Cond.before, Cond.holds, Cond.value] at h1
  unfold va_AOA
  simp only [Cond.before, Cond.holds, Cond.value]
  exact h1
theorem a_nst_warm {w : Cond} (hw : w ∈ a_nst) {s U : State} (hW : s.WarmedH U.vm) (h : va_Nw w s) : va_Nw w U := by
  unfold a_nst at hw
  simp only [List.mem_cons, List.not_mem_nil, or_false] at hw
  rcases hw with rfl | rfl | rfl | rfl | rfl | rfl | rfl | rfl | rfl <;> exact va_Nw.warmM hW h
/-- what stands fast goes along into a called method -/
theorem a_G_warm {ad : Nat → Nat} {A B : Nat → Prop} {s U : State} (hW : s.WarmedH U.vm) (hAB : ∀ q, B q → A q) (hk : ∀ a : Nat, a < s.heap.size → ¬ A a → U.heap[a]? = s.heap[a]?) (h : a_G ad A s) : a_G ad B U := by
  obtain ⟨g1, g2, g3, g4, g5, g6, g7, g8⟩ := h
  exact ⟨((g1.moved hW.alike).kept hk).narrow hAB, fun q hq => (g2 q hq).warm hW, ((g3.moved hW.alike).kept hk).narrow hAB, ((g4.moved hW.alike).kept hk).narrow hAB, fun w hw => a_nst_warm hw hW (g5 w hw), g6.moved hW.alike, g7.moved hW.alike, g8.moved hW.alike⟩
theorem a_G_same {ad : Nat → Nat} {A : Nat → Prop} {s U : State} (hv : U.vm = s.vm) (hh : U.heap = s.heap) (h : a_G ad A s) : a_G ad A U := by
  obtain ⟨g1, g2, g3, g4, g5, g6, g7, g8⟩ := h
  have hal : s.vm.Alike U.vm := by rw [hv]; exact Vm.Alike.refl _
  refine ⟨?_, fun q hq => vk_R.same hv (g2 q hq), ?_, ?_, fun w hw => ?_, g6.moved hal, g7.moved hal, ?_⟩
  · rw [hh]; exact g1.moved hal
  · rw [hh]; exact g3.moved hal
  · rw [hh]; exact g4.moved hal
  · refine va_Nw.same ?_ hv.symm (g5 w hw)
    unfold a_nst at hw
    simp only [List.mem_cons, List.not_mem_nil, or_false] at hw
    rcases hw with rfl | rfl | rfl | rfl | rfl | rfl | rfl | rfl | rfl <;> rfl
  · exact g8.moved hal
def a_flat : List Value → List Value
  | [] => []
  | .long x :: t => .long x :: .retAddr 0 :: a_flat t
  | v :: t => v :: a_flat t
def a_ent (n : Nat) (vs : List Value) : List Value := a_flat vs ++ List.replicate (n - (a_flat vs).length) (.retAddr 0)
def a_okArg (v : Value) : Bool := match v with
  | .int _ => true
  | .long _ => true
  | .ref _ => true
  | _ => false
theorem a_flat_len (ad : Nat → Nat) : ∀ vs : List Value, vs.all a_okArg = true → (lg_sl (vs.map (a_v ad))).length = (a_flat vs).length
  | [], _ => rfl
  | v :: t, h => by
    simp only [List.all_cons, Bool.and_eq_true] at h
    have ih := a_flat_len ad t h.2
    unfold lg_sl at ih ⊢
    rw [List.map_cons, List.flatMap_cons, List.length_append, ih]
    have hc := a_v_cat ad v
    cases v <;> simp [a_okArg] at h <;> simp only [hc] <;> simp [Value.category, a_flat] <;> omega
theorem a_loc_rep (ad : Nat → Nat) : ∀ (n k : Nat), a_loc ad k (List.replicate n (.retAddr 0)) = []
  | 0, _ => rfl
  | n + 1, k => by rw [List.replicate_succ]; exact a_loc_rep ad n (k + 1)
theorem a_loc_args (ad : Nat → Nat) : ∀ (vs : List Value) (k : Nat) (r : List Value), vs.all a_okArg = true → a_loc ad k (a_flat vs ++ r) = lv_args k (vs.map (a_v ad)) ++ a_loc ad (k + (a_flat vs).length) r
  | [], k, r, _ => rfl
  | v :: t, k, r, h => by
    simp only [List.all_cons, Bool.and_eq_true] at h
    have ih := fun k => a_loc_args ad t k r h.2
    have hc := a_v_cat ad v
    cases v with
    | int x =>
      simp only [a_flat, List.cons_append, a_loc, ih, List.map_cons, lv_args, hc, List.length_cons, show k + 1 + (a_flat t).length = k + ((a_flat t).length + 1) by omega]
      rfl
    | long x =>
      simp only [a_flat, List.cons_append, a_loc, ih, List.map_cons, lv_args, hc, List.length_cons, show k + 1 + 1 + (a_flat t).length = k + ((a_flat t).length + 1 + 1) by omega]
      rfl
    | ref x =>
      simp only [a_flat, List.cons_append, a_loc, ih, List.map_cons, lv_args, hc, List.length_cons, show k + 1 + (a_flat t).length = k + ((a_flat t).length + 1) by omega]
      rfl
    | _ => simp [a_okArg] at h
theorem a_entry (ad : Nat → Nat) {vs : List Value} {n : Nat} (h : vs.all a_okArg = true) (hl : (a_flat vs).length ≤ n) : lv_has ((lg_sl (vs.map (a_v ad)) ++ List.replicate (n - (lg_sl (vs.map (a_v ad))).length) Slot.unset).toArray) n (a_loc ad 0 (a_ent n vs)) := by
  have h1 := lv_entry (vs.map (a_v ad)) (n := n) (by rw [a_flat_len ad vs h]; exact hl)
  unfold a_ent
  rw [a_loc_args ad vs 0 _ h, a_loc_rep, List.append_nil]
  exact h1
abbrev a_rm (d bc bs : Nat) : Room := { frames := d, cells := bc, slots := bs, locals := 64 * d }
abbrev a_wsM (M : AMt) : List Cond := Cond.code M.1 M.2.1 M.2.2.1 M.2.2.2.1 :: a_tbl
/-- a world behind a call -/
def a_Wt (D : va_G) (ad : Nat → Nat) (ac : Nat → ClassId) (σ : ASt) (A : Nat → Prop) (t : State) : Prop :=
  (∀ (n kd len : Nat), σ.1[n + 1]? = some (.inr (kd, len)) → ArrOfT t (ac (n + 1)) (a_kt kd) ∧ va_RA t (ac (n + 1)) (a_kt kd)) ∧ va_P D vwCl (a_ws ad ac σ) t.heap ∧ va_D A (a_ws ad ac σ) ∧ (∃ t, σ.1 = .inr (7, 0) :: t) ∧ σ.1.length < 1000 ∧ ∀ n k, n < σ.1.length → aMr σ n k < σ.1.length
def a_Pc (D : va_G) (ad : Nat → Nat) (ac : Nat → ClassId) (σ : ASt) (sz : Nat) (vs : List Value) : Array Value → State → Prop :=
  va_Pc (vs.map (a_v ad)) (fun U => U.heap.size = sz ∧ va_K D vwCl [] U ∧ a_Wt D ad ac σ (va_A (a_ws ad ac σ) sz) U ∧ a_G ad (va_A (a_ws ad ac σ) sz) U)
def a_Qc (M : AMt) (D : va_G) (ad : Nat → Nat) (ac : Nat → ClassId) (σ : ASt) (sz : Nat) (Q : Option Value → ASt → Prop) : Array Value → State → Outcome → State → Prop := fun _ st oc t =>
  (∃ (v : Option Value) (σ' : ASt) (ad' : Nat → Nat) (ac' : Nat → ClassId), oc = .returned (v.map (a_v ad')) ∧ Q v σ' ∧ a_ext ad ad' σ σ' ∧ a_Wt D ad' ac' σ' (va_A (a_ws ad ac σ) sz) t) ∧ va_F (va_A (a_ws ad ac σ) sz) st t
theorem a_met {l : Launch} {d : Nat} {M : AMt} {vs : List Value} {σ : ASt} {Q : Option Value → ASt → Prop} (hM : M.2.2.2.2 = none) (hpl : plainName M.1.cls = true) (hvs : vs.all a_okArg = true) (hvl : (a_flat vs).length ≤ M.2.2.1) (h : Ev l d M 0 (a_ent M.2.2.1 vs, [], σ) Q) (D : va_G) (ad : Nat → Nat) (ac : Nat → ClassId) (sz : Nat) :
    Met l M.1 (a_wsM M) (a_rm d (aBc σ) (aBs σ)) (a_Pc D ad ac σ sz vs) (a_Qc M D ad ac σ sz Q) (aBc σ) (aBs σ) (va_A (a_ws ad ac σ) sz) := by
  refine Met.ofW (cc := M.2.1) (maxL := M.2.2.1) (ret := M.2.2.2.1) hpl rfl ?_
  intro p e s m args below meth c s₁ B hml hv
  obtain ⟨rfl, hsz, hK, hW, hG⟩ := hv
  have hts := atoms_spec (ws := a_wsM M) B.pre
  have hF : a_Fix M p s m ((vs.map (a_v ad)).toArray) meth c := ⟨B.exec, B.bytes, hml, findClass_of_methodNamed B.named, B.returns, B.notSynchronized, fun hi => by rw [(name_of_methodNamed B.named B.method).1]; exact hi, fun w hw => hts w (List.mem_cons_of_mem _ hw)⟩
  subst hsz
  have hW0 : a_W D ad ac σ (va_A (a_ws ad ac σ) s.heap.size) s s.heap [] := ⟨hK, hW.1, hW.2.1, hW.2.2.1, fun q hq => Or.inr hq, va_S.rf, hW.2.2.2⟩
  have hl := a_entry ad hvs hvl
  rw [lg_entry_eq]
  refine h p e _ s m _ below meth c D ad ac _ s.heap [] 0 0 _ _ hF hG (by rw [hM]; trivial) hW0 (Nat.le_refl _) (Nat.le_refl _) (by show 0 + aBc σ ≤ aBc σ; omega) (by show 0 + aBs σ ≤ aBs σ; omega) hl (fun v σ' ad' ac' H' locs' cells' slots' pc' ls' hq hx hw c1 c2 hr => ?_)
  refine W.widen (k := aBc σ) (n := aBs σ) (by dsimp only at c1; omega) (by dsimp only at c2; omega) ?_
  have post : ∀ t : State, t.heap = H' → s.WarmedH t.vm → a_Qc M D ad ac σ s.heap.size Q ((vs.map (a_v ad)).toArray) s (.returned (v.map (a_v ad'))) t := fun t ht hWm => by
    refine ⟨⟨v, σ', ad', ac', rfl, hq, hx, ?_⟩, hw.2.2.2.2.2.1.F ht⟩
    refine ⟨fun n kd len hn => ?_, by rw [ht]; exact hw.2.2.1, hw.2.2.2.1, hw.2.2.2.2.2.2⟩
    obtain ⟨h1, h2⟩ := hw.2.1 n kd len hn
    exact ⟨arrOfT_moved hWm.alike h1, h2.moved hWm.alike⟩
  have hfree : ∀ q ∈ locs', va_A (a_ws ad ac σ) s.heap.size q.base := hw.2.2.2.2.2.1.2.2
  match v, hr, post with
  | none, hr, post => exact W.vret B.exec B.bytes (by rw [B.returns]; exact hr.2) post hfree hr.1
  | some (.int x), hr, post =>
    obtain ⟨h1, ty, h2, h3⟩ := hr
    exact W.zret (ty := ty) B.exec B.bytes (by rw [B.returns]; exact h2) h3 post hfree h1
  | some (.long x), hr, post => exact W.lret B.exec B.bytes (by rw [B.returns]; exact hr.2) post hfree hr.1
  | some (.float _), hr, _ => exact hr.elim
  | some (.double _), hr, _ => exact hr.elim
  | some .null, hr, _ => exact hr.elim
  | some (.ref _), hr, _ => exact hr.elim
  | some (.retAddr _), hr, _ => exact hr.elim
