def a_wb (σ : ASt) (b s : Nat) : ASt := (σ.1, σ.2.1, σ.2.2.1, σ.2.2.2.1, b, s)
theorem a_okv_self (a : Nat) (v : Value) : a_okv a a v = true := by
  cases v with
  | ref n =>
    simp only [a_okv, Bool.or_eq_true, decide_eq_true_eq]
    exact Nat.lt_or_ge n a
  | _ => rfl
theorem a_okv_le {a b : Nat} (hb : b ≤ 1000) {v : Value} (h : a_okv a 1000 v = true) : a_okv a b v = true := by
  cases v with
  | ref n =>
    simp only [a_okv, Bool.or_eq_true, decide_eq_true_eq] at h ⊢
    rcases h with h | h
    · exact Or.inl h
    · exact Or.inr (Nat.le_trans hb h)
  | _ => rfl
/-- a call, however it is made -/
theorem Ev.callX {l : Launch} {d : Nat} {M Mj : AMt} {pc : Nat} {L F S : List Value} {σ : ASt} {Q Q1 : Option Value → ASt → Prop} {b1 s1 : Nat} {vs : List Value} (hb : b1 ≤ aBc σ) (hs : s1 ≤ aBs σ) (hok : b1 = 0 ∨ (L ++ S).all (a_okv σ.1.length 1000) = true)
    (hrun : ∀ (p : Program) (e : Env) (R : Room) (s : State) (m : MethodId) (args : Array Value) (below : List Frame) (meth : Method) (c : Code) (D : va_G) (ad : Nat → Nat) (ac : Nat → ClassId) (A : Nat → Prop) (H : Heap) (locs : List Loc) (cells slots : Nat) (ls : Array Slot), a_Fix M p s m args meth c → a_G ad A s → a_W D ad ac σ A s H locs → d + 1 ≤ R.frames → 64 * (d + 1) ≤ R.locals → cells + aBc σ ≤ R.cells → slots + aBs σ ≤ R.slots → ls.size = M.2.2.1 →
      va_Run p l e R s m args below meth c H locs cells slots b1 s1 (F0 m pc ls (F.map (a_v ad))) (S.map (a_v ad)) (a_Qc Mj D ad ac (a_wb σ b1 s1) H.size Q1 ((vs.map (a_v ad)).toArray)) (va_A (a_ws ad ac σ) H.size))
    (k : ∀ v σ', Q1 v σ' → Ev l (d + 1) M (pc + 3) (L, v.toList ++ S, a_wb σ' (aBc σ - b1) (aBs σ - s1)) Q) : Ev l (d + 1) M pc (L, F, σ) Q := by
  intro p e R s m args below meth c D ad ac A H locs cells slots ls Z hF hG hX hW h1 h2 h3 h4 hl hret T hT X
  obtain ⟨v', st₀, t, T', Lc, h0, X', hL, e1, e2, ⟨⟨v, σ', ad', ac', hv, hq, hx, hWt⟩, hz, hkk⟩, st⟩ := hrun p e R s m args below meth c D ad ac A H locs cells slots ls hF hG hW h1 h2 h3 h4 hl.1 T hT X
  cases hv
  rw [h0] at hz hkk
  obtain ⟨x1, x2, x3⟩ := hx
  have x3' : σ'.1.length + aBc σ' ≤ σ.1.length + b1 := x3
  have x1' : ∀ n, ¬ (σ.1.length ≤ n ∧ n < σ'.1.length) → ad' n = ad n := x1
  have x2' : σ.1 <+: σ'.1 := x2
  have hle := x2'.length_le
  obtain ⟨w1, w2, w3, w4, w5, w6⟩ := hWt
  have hx2 : ∀ n, 1000 ≤ n → ad' n = ad n := fun n hn => x1' n (by omega)
  have hfree : ∀ q, va_A (a_ws ad ac σ) H.size q → A q := fun q h => by
    rcases h with ⟨k9, e9, h9⟩ | h9
    · exact hW.2.2.2.1.2 k9 _ h9
    · exact hW.2.2.2.2.1 q (Nat.le_trans hW.2.2.2.2.2.1.1 h9)
  have hal : s.vm.Alike t.vm := by rw [← e2]; exact X'.warmed.alike
  have hS := hW.2.2.2.2.2.1
  have hS1 : va_S A s.heap T'.heap (locs ++ Lc) := ⟨Nat.le_trans hS.1 (by rw [e1]; exact hz), fun q g1 g2 => by rw [e1, hkk q (Nat.lt_of_lt_of_le g1 hS.1) (fun z => g2 (hfree q z))]; exact hS.2.1 q g1 g2, fun q hq => by
    rcases List.mem_append.mp hq with h | h
    · exact hS.2.2 q h
    · exact hfree _ (hL q h)⟩
  have hW' : a_W D ad' ac' (a_wb σ' (aBc σ - b1) (aBs σ - s1)) A s T'.heap (locs ++ Lc) := by
    refine ⟨hW.1, fun n kd len hn => ?_, by rw [e1]; exact w2, w3.weaken (fun _ _ _ h => hfree _ h), hW.2.2.2.2.1, hS1, w4, w5, w6⟩
    obtain ⟨g1, g2⟩ := w1 n kd len hn
    exact ⟨arrOfT_moved hal.symm g1, g2.moved hal.symm⟩
  have okS : ∀ v ∈ L ++ S, a_okv σ.1.length σ'.1.length v = true := fun v hv => by
    rcases hok with hz0 | hall
    · have : σ'.1.length = σ.1.length := by omega
      rw [this]
      exact a_okv_self _ v
    · exact a_okv_le (by omega) (List.all_eq_true.mp hall v hv)
  have okL : L.all (a_okv σ.1.length σ'.1.length) = true := List.all_eq_true.mpr fun v hv => okS v (List.mem_append_left _ hv)
  have okR : S.all (a_okv σ.1.length σ'.1.length) = true := List.all_eq_true.mpr fun v hv => okS v (List.mem_append_right _ hv)
  have hext : a_ext ad ad' σ (a_wb σ' (aBc σ - b1) (aBs σ - s1)) := ⟨x1', x2', by show σ'.1.length + (aBc σ - b1) ≤ _; omega⟩
  have K := k v σ' hq p e R s m args below meth c D ad' ac' A T'.heap (locs ++ Lc) (cells + b1) (slots + s1) ls Z hF (a_G_ext hx2 hG) (a_X_ext hx2 hX) hW' h1 h2 (by show cells + b1 + (aBc σ - b1) ≤ _; dsimp only at h3; omega) (by show slots + s1 + (aBs σ - s1) ≤ _; dsimp only at h4; omega) (by dsimp only at hl ⊢; rw [a_loc_ext x1' L 0 okL]; exact hl) (fun v2 σ2 ad2 ac2 H2 locs2 cells2 slots2 pc2 ls2 q2 y2 z2 b2 c2 r2 => by
    refine hret v2 σ2 ad2 ac2 H2 locs2 cells2 slots2 pc2 ls2 q2 (a_ext_trans hext y2) z2 ?_ ?_ r2
    · have b2' : cells2 + aBc σ2 ≤ cells + b1 + (aBc σ - b1) := b2
      show cells2 + aBc σ2 ≤ cells + aBc σ
      omega
    · have c2' : slots2 + aBs σ2 ≤ slots + s1 + (aBs σ - s1) := c2
      show slots2 + aBs σ2 ≤ slots + aBs σ
      omega)
  obtain ⟨t2, a1, b2⟩ := K T' rfl X'
  refine ⟨t2, st t2 ?_, b2⟩
  have es : (v.map (a_v ad')).toList ++ S.map (a_v ad) = (v.toList ++ S).map (a_v ad') := by
    rw [List.map_append, a_map_ext x1' okR]
    cases v <;> rfl
  rw [es]
  exact a1
/-- what a called method must have -/
def a_Cal (Mj : AMt) (n : Nat) : Prop := Cond.code Mj.1 Mj.2.1 Mj.2.2.1 Mj.2.2.2.1 ∈ a_tbl ∧ Cond.initialized Mj.1.cls ∈ a_tbl ∧ plainName Mj.1.cls = true ∧ Mj.2.2.2.2 = none ∧ Mj.2.2.1 ≤ 40 ∧ (Mj.1.cls ≠ "java/lang/invoke/MethodHandle" ∧ Mj.1.cls ≠ "java/lang/invoke/VarHandle" ∧ (parseMethodDescriptor Mj.1.desc).map (fun d => d.parameters.length) = some n)
theorem a_goodT {w : Cond} (h : w ∈ a_tbl) : w ∈ a_tbl ∧ ((w.onTables && w.keeps) = true ∨ ∃ ty, w = .arrayClass ty) := ⟨h, good_of_word (List.mem_filter.mp h).2⟩
theorem a_good {ws : List Cond} (h : ∀ w ∈ ws, w ∈ a_tbl) : GoodIn a_tbl ws := fun w hw => a_goodT (h w hw)
theorem a_wsM_in {Mj : AMt} {n : Nat} (h : a_Cal Mj n) : ∀ w ∈ a_wsM Mj, w ∈ a_tbl := fun w hw => by
  rcases List.mem_cons.mp hw with rfl | h2
  · exact h.1
  · exact h2
/-- the called method's start, out of the caller's world -/
theorem a_pre {D : va_G} {ad : Nat → Nat} {ac : Nat → ClassId} {σ : ASt} {A : Nat → Prop} {s : State} {H : Heap} {locs : List Loc} {b1 s1 : Nat} {vs : List Value} (hG : a_G ad A s) (hW : a_W D ad ac σ A s H locs) :
    FrameBlind (a_Pc D ad ac (a_wb σ b1 s1) H.size vs) ∧ ∀ U : State, U.heap = H → s.WarmedH U.vm → a_Pc D ad ac (a_wb σ b1 s1) H.size vs ((vs.map (a_v ad)).toArray) U := by
  constructor
  · intro a U g mk q
    obtain ⟨q0, q1, q2, q3, q4⟩ := q
    refine ⟨q0, q1, va_K.moved (u := U) (U := U.calling g mk a) (Vm.Alike.refl U.vm) q2, q3, ?_⟩
    exact a_G_same (s := U) (U := U.calling g mk a) rfl rfl q4
  · intro U hU hWm
    have hfree : ∀ q, va_A (a_ws ad ac σ) H.size q → A q := fun q h => by
      rcases h with ⟨k9, e9, h9⟩ | h9
      · exact hW.2.2.2.1.2 k9 _ h9
      · exact hW.2.2.2.2.1 q (Nat.le_trans hW.2.2.2.2.2.1.1 h9)
    refine ⟨rfl, by rw [hU], va_K.moved hWm.alike hW.1, ⟨fun n kd len hn => ?_, by rw [hU]; exact hW.2.2.1, hW.2.2.2.1.self, hW.2.2.2.2.2.2⟩, ?_⟩
    · obtain ⟨g1, g2⟩ := hW.2.1 n kd len hn
      exact ⟨arrOfT_moved hWm.alike g1, g2.moved hWm.alike⟩
    · exact a_G_warm hWm hfree (fun a g1 g2 => by rw [hU]; exact hW.2.2.2.2.2.1.2.1 a g1 g2) hG
theorem a_cats (ad : Nat → Nat) (S : List Value) : ((S.map (a_v ad)).map fun v => v.category).sum = (S.map fun v => v.category).sum := by
  rw [List.map_map]
  congr 1
  apply List.map_congr_left
  intro v _
  exact a_v_cat ad v
section EVC
variable {l : Launch} {d : Nat} {M Mj : AMt} {pc idx n : Nat} {L As S : List Value} {σ : ASt} {Q Q1 : Option Value → ASt → Prop} {b1 s1 : Nat}
/-- a method of an object of ours -/
theorem Ev.callV {x ci : Nat} {T : u_T} {N : Nat} (hcal : a_Cal Mj n) (hlk : Cond.methodLink M.1.cls idx Mj.1 ∈ a_tbl) (hin : Cond.instanceMethod Mj.1 ∈ a_tbl) (hsel : Cond.selects Mj.1.cls Mj.1 Mj.1 ∈ a_tbl) (hc : vwCl[ci]? = some (Mj.1.cls, T, N)) (hx : σ.1[x]? = some (.inl ci)) (hn : As.length = n) (hvs : (Value.ref x :: As).all a_okArg = true) (hvl : (a_flat (Value.ref x :: As)).length ≤ Mj.2.2.1) (hrs : (S.map fun v => v.category).sum ≤ 8)
    (hb : b1 ≤ aBc σ) (hs : s1 ≤ aBs σ) (hok : b1 = 0 ∨ (L ++ S).all (a_okv σ.1.length 1000) = true) (hd : decode M.2.1 pc = .ok (.invokevirtual idx, 3)) (hev : Ev l d Mj 0 (a_ent Mj.2.2.1 (Value.ref x :: As), [], a_wb σ b1 s1) Q1)
    (k : ∀ v σ', Q1 v σ' → Ev l (d + 1) M (pc + 3) (L, v.toList ++ S, a_wb σ' (aBc σ - b1) (aBs σ - s1)) Q) : Ev l (d + 1) M pc (L, As.reverse ++ .ref x :: S, σ) Q := by
  refine Ev.callX (Mj := Mj) (vs := Value.ref x :: As) hb hs hok (fun p e R s m args below meth c D ad ac A H locs cells slots ls hF hG hW h1 h2 h3 h4 hls => ?_) k
  obtain ⟨j, hj, hjl, hg, hv⟩ := a_nm hW hx (by simp)
  have hts := hF.2.2.2.2.2.2.2
  have hpre := a_pre (b1 := b1) (s1 := s1) (vs := Value.ref x :: As) hG hW
  have hM := a_met (σ := a_wb σ b1 s1) hcal.2.2.2.1 hcal.2.2.1 hvs hvl hev D ad ac H.size
  have hmx := hcal.2.2.2.2.1
  have hgood : GoodIn a_tbl (wsV M.1.cls idx Mj.1.cls Mj.1 (a_wsM Mj)) := a_good (fun w hw => by
    unfold wsV at hw
    rcases List.mem_append.mp hw with h | h
    · simp only [List.mem_cons, List.not_mem_nil, or_false] at h
      rcases h with rfl | rfl | rfl | rfl
      · exact hlk
      · exact hin
      · exact hsel
      · exact hcal.2.1
    · exact a_wsM_in hcal w h)
  have e1 : (Value.ref x :: As).map (a_v ad) = .ref (ad x) :: As.map (a_v ad) := by rw [List.map_cons, hv]
  have R0 := va_runV (e := e) (below := below) (meth := meth) (locs := locs) (As := As.map (a_v ad)) (rest := S.map (a_v ad)) (b := ad x) (g := F0 m pc ls ((As.reverse ++ .ref x :: S).map (a_v ad))) ⟨hF.1, hF.2.1, hF.2.2.1, hF.2.2.2.1, hts⟩ hM (cwV n hts hgood rfl rfl rfl ⟨rfl, hcal.2.2.2.2.2⟩ ⟨h1, by show 8 + (Mj.2.2.1 + 11) + 64 * d ≤ _; omega⟩) ⟨hpre.1, va_recv hW.1 hW.2.2.1 hc hg, fun U hU hWm => by rw [← e1]; exact hpre.2 U hU hWm⟩ rfl (by simpa using hn) hls (by rw [List.map_append, List.map_cons, hv, List.map_reverse]) (lv_room (by rw [a_cats]; exact hrs)) hd ⟨by show cells + b1 ≤ _; omega, by show slots + s1 ≤ _; omega⟩
  rw [← e1] at R0
  exact R0
/-- a method of a String constant -/
theorem Ev.callVS {x : Nat} (hcal : a_Cal Mj n) (hcl : Mj.1.cls = "java/lang/String") (hlk : Cond.methodLink M.1.cls idx Mj.1 ∈ a_tbl) (hin : Cond.instanceMethod Mj.1 ∈ a_tbl) (hsel : Cond.selects Mj.1.cls Mj.1 Mj.1 ∈ a_tbl) (hx : x < 3) (hn : As.length = n) (hvs : (Value.ref (1000000 + x) :: As).all a_okArg = true) (hvl : (a_flat (Value.ref (1000000 + x) :: As)).length ≤ Mj.2.2.1) (hrs : (S.map fun v => v.category).sum ≤ 8)
    (hd : decode M.2.1 pc = .ok (.invokevirtual idx, 3)) (hev : Ev l d Mj 0 (a_ent Mj.2.2.1 (Value.ref (1000000 + x) :: As), [], a_wb σ 0 0) Q1)
    (k : ∀ v σ', Q1 v σ' → Ev l (d + 1) M (pc + 3) (L, v.toList ++ S, a_wb σ' (aBc σ - 0) (aBs σ - 0)) Q) : Ev l (d + 1) M pc (L, As.reverse ++ .ref (1000000 + x) :: S, σ) Q := by
  refine Ev.callX (Mj := Mj) (vs := Value.ref (1000000 + x) :: As) (Nat.zero_le _) (Nat.zero_le _) (Or.inl rfl) (fun p e R s m args below meth c D ad ac A H locs cells slots ls hF hG hW h1 h2 h3 h4 hls => ?_) k
  have hv : a_v ad (.ref (1000000 + x)) = .ref (ad (1000000 + x)) := by simp only [a_v, a_rv]; rw [if_neg (by omega)]
  have hts := hF.2.2.2.2.2.2.2
  have hpre := a_pre (b1 := 0) (s1 := 0) (vs := Value.ref (1000000 + x) :: As) hG hW
  have hM := a_met (σ := a_wb σ 0 0) hcal.2.2.2.1 hcal.2.2.1 hvs hvl hev D ad ac H.size
  have hmx := hcal.2.2.2.2.1
  have hgood : GoodIn a_tbl (wsV M.1.cls idx Mj.1.cls Mj.1 (a_wsM Mj)) := a_good (fun w hw => by
    unfold wsV at hw
    rcases List.mem_append.mp hw with h | h
    · simp only [List.mem_cons, List.not_mem_nil, or_false] at h
      rcases h with rfl | rfl | rfl | rfl
      · exact hlk
      · exact hin
      · exact hsel
      · exact hcal.2.1
    · exact a_wsM_in hcal w h)
  have hrecv := vk_recv hG.1 hx hW.2.2.2.2.2.1
  rw [← hcl] at hrecv
  have e1 : (Value.ref (1000000 + x) :: As).map (a_v ad) = .ref (ad (1000000 + x)) :: As.map (a_v ad) := by rw [List.map_cons, hv]
  have R0 := va_runV (e := e) (below := below) (meth := meth) (locs := locs) (As := As.map (a_v ad)) (rest := S.map (a_v ad)) (b := ad (1000000 + x)) (g := F0 m pc ls ((As.reverse ++ .ref (1000000 + x) :: S).map (a_v ad))) ⟨hF.1, hF.2.1, hF.2.2.1, hF.2.2.2.1, hts⟩ hM (cwV n hts hgood rfl rfl rfl ⟨rfl, hcal.2.2.2.2.2⟩ ⟨h1, by show 8 + (Mj.2.2.1 + 11) + 64 * d ≤ _; omega⟩) ⟨hpre.1, hrecv, fun U hU hWm => by rw [← e1]; exact hpre.2 U hU hWm⟩ rfl (by simpa using hn) hls (by rw [List.map_append, List.map_cons, hv, List.map_reverse]) (lv_room (by rw [a_cats]; exact hrs)) hd ⟨by show cells + 0 ≤ _; omega, by show slots + 0 ≤ _; omega⟩
  rw [← e1] at R0
  exact R0
/-- a static method -/
theorem Ev.callS (hcal : a_Cal Mj n) (hlk : Cond.methodLink M.1.cls idx Mj.1 ∈ a_tbl) (hst : Cond.static Mj.1 ∈ a_tbl) (hn : As.length = n) (hvs : As.all a_okArg = true) (hvl : (a_flat As).length ≤ Mj.2.2.1) (hrs : (S.map fun v => v.category).sum ≤ 8)
    (hd : decode M.2.1 pc = .ok (.invokestatic idx, 3)) (hev : Ev l d Mj 0 (a_ent Mj.2.2.1 As, [], a_wb σ 0 0) Q1)
    (k : ∀ v σ', Q1 v σ' → Ev l (d + 1) M (pc + 3) (L, v.toList ++ S, a_wb σ' (aBc σ - 0) (aBs σ - 0)) Q) : Ev l (d + 1) M pc (L, As.reverse ++ S, σ) Q := by
  refine Ev.callX (Mj := Mj) (vs := As) (Nat.zero_le _) (Nat.zero_le _) (Or.inl rfl) (fun p e R s m args below meth c D ad ac A H locs cells slots ls hF hG hW h1 h2 h3 h4 hls => ?_) k
  have hts := hF.2.2.2.2.2.2.2
  have hpre := a_pre (b1 := 0) (s1 := 0) (vs := As) hG hW
  have hM := a_met (σ := a_wb σ 0 0) hcal.2.2.2.1 hcal.2.2.1 hvs hvl hev D ad ac H.size
  have hmx := hcal.2.2.2.2.1
  have hgood : GoodIn a_tbl (va_wsS M.1.cls idx Mj.1 (a_wsM Mj)) := a_good (fun w hw => by
    unfold va_wsS at hw
    rcases List.mem_append.mp hw with h | h
    · simp only [List.mem_cons, List.not_mem_nil, or_false] at h
      rcases h with rfl | rfl | rfl
      · exact hlk
      · exact hst
      · exact hcal.2.1
    · exact a_wsM_in hcal w h)
  exact va_runS (As := As.map (a_v ad)) (rest := S.map (a_v ad)) (g := F0 m pc ls ((As.reverse ++ S).map (a_v ad))) ⟨hF.1, hF.2.1, hF.2.2.1, hF.2.2.2.1, hts⟩ hM (va_cwS n hts hgood rfl rfl rfl hcal.2.2.2.2.2 ⟨h1, by show 8 + (Mj.2.2.1 + 11) + 64 * d ≤ _; omega⟩) ⟨hpre.1, hpre.2⟩ rfl (by simpa using hn) hls (by rw [List.map_append, List.map_reverse]) (lv_room (by rw [a_cats]; exact hrs)) hd ⟨by show cells + 0 ≤ _; omega, by show slots + 0 ≤ _; omega⟩
/-- a private static method of a nest mate -/
theorem Ev.callSN {host : String} (hcal : a_Cal Mj n) (hlk : Cond.methodLinkNest M.1.cls idx Mj.1 host ∈ a_nst) (hst : Cond.static Mj.1 ∈ a_tbl) (hn : As.length = n) (hvs : As.all a_okArg = true) (hvl : (a_flat As).length ≤ Mj.2.2.1) (hrs : (S.map fun v => v.category).sum ≤ 8)
    (hd : decode M.2.1 pc = .ok (.invokestatic idx, 3)) (hev : Ev l d Mj 0 (a_ent Mj.2.2.1 As, [], a_wb σ 0 0) Q1)
    (k : ∀ v σ', Q1 v σ' → Ev l (d + 1) M (pc + 3) (L, v.toList ++ S, a_wb σ' (aBc σ - 0) (aBs σ - 0)) Q) : Ev l (d + 1) M pc (L, As.reverse ++ S, σ) Q := by
  refine Ev.callX (Mj := Mj) (vs := As) (Nat.zero_le _) (Nat.zero_le _) (Or.inl rfl) (fun p e R s m args below meth c D ad ac A H locs cells slots ls hF hG hW h1 h2 h3 h4 hls => ?_) k
  have hts := hF.2.2.2.2.2.2.2
  have hpre := a_pre (b1 := 0) (s1 := 0) (vs := As) hG hW
  have hM := a_met (σ := a_wb σ 0 0) hcal.2.2.2.1 hcal.2.2.1 hvs hvl hev D ad ac H.size
  have hmx := hcal.2.2.2.2.1
  exact va_runSN (As := As.map (a_v ad)) (rest := S.map (a_v ad)) (g := F0 m pc ls ((As.reverse ++ S).map (a_v ad))) ⟨hF.1, hF.2.1, hF.2.2.1, hF.2.2.2.1, hts⟩ hM ⟨va_cnB n hts (a_good (a_wsM_in hcal)) rfl rfl rfl (hG.2.2.2.2.1 _ hlk) (hts _ hcal.2.1) hcal.2.2.2.2.2 ⟨h1, by show 8 + (Mj.2.2.1 + 11) + 64 * d ≤ _; omega⟩, hts _ hst, trivial⟩ ⟨hpre.1, hpre.2⟩ rfl (by simpa using hn) hls (by rw [List.map_append, List.map_reverse]) (lv_room (by rw [a_cats]; exact hrs)) hd ⟨by show cells + 0 ≤ _; omega, by show slots + 0 ≤ _; omega⟩
/-- a constructor -/
theorem Ev.callI {x : Nat} (hcal : a_Cal Mj n) (hret : Mj.2.2.2.1 = none) (hlk : Cond.methodLink M.1.cls idx Mj.1 ∈ a_tbl) (hin : Cond.instanceMethod Mj.1 ∈ a_tbl) (hnm : Mj.1.name = "<init>") (hx9 : x ≠ 1500000) (hn : As.length = n) (hvs : (Value.ref x :: As).all a_okArg = true) (hvl : (a_flat (Value.ref x :: As)).length ≤ Mj.2.2.1) (hrs : (S.map fun v => v.category).sum ≤ 8)
    (hb : b1 ≤ aBc σ) (hs : s1 ≤ aBs σ) (hok : b1 = 0 ∨ (L ++ S).all (a_okv σ.1.length 1000) = true) (hd : decode M.2.1 pc = .ok (.invokespecial idx, 3)) (hev : Ev l d Mj 0 (a_ent Mj.2.2.1 (Value.ref x :: As), [], a_wb σ b1 s1) Q1)
    (k : ∀ v σ', Q1 v σ' → Ev l (d + 1) M (pc + 3) (L, v.toList ++ S, a_wb σ' (aBc σ - b1) (aBs σ - s1)) Q) : Ev l (d + 1) M pc (L, As.reverse ++ .ref x :: S, σ) Q := by
  refine Ev.callX (Mj := Mj) (vs := Value.ref x :: As) hb hs hok (fun p e R s m args below meth c D ad ac A H locs cells slots ls hF hG hW h1 h2 h3 h4 hls => ?_) k
  have hv : a_v ad (.ref x) = .ref (ad x) := by simp only [a_v, a_rv]; rw [if_neg hx9]
  have hts := hF.2.2.2.2.2.2.2
  have hpre := a_pre (b1 := b1) (s1 := s1) (vs := Value.ref x :: As) hG hW
  have hM := a_met (σ := a_wb σ b1 s1) hcal.2.2.2.1 hcal.2.2.1 hvs hvl hev D ad ac H.size
  have hmx := hcal.2.2.2.2.1
  have e1 : (Value.ref x :: As).map (a_v ad) = .ref (ad x) :: As.map (a_v ad) := by rw [List.map_cons, hv]
  have R0 := va_runI (e := e) (below := below) (meth := meth) (locs := locs) (As := As.map (a_v ad)) (rest := S.map (a_v ad)) (b := ad x) (g := F0 m pc ls ((As.reverse ++ .ref x :: S).map (a_v ad))) ⟨hF.1, hF.2.1, hF.2.2.1, hF.2.2.2.1, hts⟩ hM (cwI n hts (a_good (a_wsM_in hcal)) (by unfold a_wsM; rw [hret]) rfl rfl (hts _ hcal.2.1) (hts _ hlk) (hts _ hin) hnm hcal.2.2.2.2.2 ⟨h1, by show 8 + (Mj.2.2.1 + 11) + 64 * d ≤ _; omega⟩) ⟨hpre.1, fun U hU hWm => by rw [← e1]; exact hpre.2 U hU hWm⟩ rfl (by simpa using hn) hls (by rw [List.map_append, List.map_cons, hv, List.map_reverse]) (lv_room (by rw [a_cats]; exact hrs)) hd ⟨by show cells + b1 ≤ _; omega, by show slots + s1 ≤ _; omega⟩
  rw [← e1] at R0
  exact R0
theorem Ev.callIN {x : Nat} {host : String} (hcal : a_Cal Mj n) (hret : Mj.2.2.2.1 = none) (hlk : Cond.methodLinkNest M.1.cls idx Mj.1 host ∈ a_nst) (hin : Cond.instanceMethod Mj.1 ∈ a_tbl) (hnm : Mj.1.name = "<init>") (hx9 : x ≠ 1500000) (hn : As.length = n) (hvs : (Value.ref x :: As).all a_okArg = true) (hvl : (a_flat (Value.ref x :: As)).length ≤ Mj.2.2.1) (hrs : (S.map fun v => v.category).sum ≤ 8)
    (hb : b1 ≤ aBc σ) (hs : s1 ≤ aBs σ) (hok : b1 = 0 ∨ (L ++ S).all (a_okv σ.1.length 1000) = true) (hd : decode M.2.1 pc = .ok (.invokespecial idx, 3)) (hev : Ev l d Mj 0 (a_ent Mj.2.2.1 (Value.ref x :: As), [], a_wb σ b1 s1) Q1)
    (k : ∀ v σ', Q1 v σ' → Ev l (d + 1) M (pc + 3) (L, v.toList ++ S, a_wb σ' (aBc σ - b1) (aBs σ - s1)) Q) : Ev l (d + 1) M pc (L, As.reverse ++ .ref x :: S, σ) Q := by
  refine Ev.callX (Mj := Mj) (vs := Value.ref x :: As) hb hs hok (fun p e R s m args below meth c D ad ac A H locs cells slots ls hF hG hW h1 h2 h3 h4 hls => ?_) k
  have hv : a_v ad (.ref x) = .ref (ad x) := by simp only [a_v, a_rv]; rw [if_neg hx9]
  have hts := hF.2.2.2.2.2.2.2
  have hpre := a_pre (b1 := b1) (s1 := s1) (vs := Value.ref x :: As) hG hW
  have hM := a_met (σ := a_wb σ b1 s1) hcal.2.2.2.1 hcal.2.2.1 hvs hvl hev D ad ac H.size
  have hmx := hcal.2.2.2.2.1
  have e1 : (Value.ref x :: As).map (a_v ad) = .ref (ad x) :: As.map (a_v ad) := by rw [List.map_cons, hv]
  have R0 := va_runIN (e := e) (below := below) (meth := meth) (locs := locs) (As := As.map (a_v ad)) (rest := S.map (a_v ad)) (b := ad x) (g := F0 m pc ls ((As.reverse ++ .ref x :: S).map (a_v ad))) ⟨hF.1, hF.2.1, hF.2.2.1, hF.2.2.2.1, hts⟩ hM ⟨va_cnB n hts (a_good (a_wsM_in hcal)) (by unfold a_wsM; rw [hret]) rfl rfl (hG.2.2.2.2.1 _ hlk) (hts _ hcal.2.1) hcal.2.2.2.2.2 ⟨h1, by show 8 + (Mj.2.2.1 + 11) + 64 * d ≤ _; omega⟩, hnm, hts _ hin⟩ ⟨hpre.1, fun U hU hWm => by rw [← e1]; exact hpre.2 U hU hWm⟩ rfl (by simpa using hn) hls (by rw [List.map_append, List.map_cons, hv, List.map_reverse]) (lv_room (by rw [a_cats]; exact hrs)) hd ⟨by show cells + b1 ≤ _; omega, by show slots + s1 ≤ _; omega⟩
  rw [← e1] at R0
  exact R0
end EVC
