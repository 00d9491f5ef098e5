/-! ===== making objects and arrays ===== -/
def a_okv (a b : Nat) (v : Value) : Bool := match v with
  | .ref n => decide (n < a) || decide (b ≤ n)
  | _ => true
theorem a_v_ext {ad ad' : Nat → Nat} {a b : Nat} (h : ∀ n, ¬ (a ≤ n ∧ n < b) → ad' n = ad n) {v : Value} (hv : a_okv a b v = true) : a_v ad' v = a_v ad v := by
  cases v with
  | ref n =>
    simp only [a_okv, Bool.or_eq_true, decide_eq_true_eq] at hv
    have e := h n (fun q => by rcases hv with hv | hv; exact absurd hv (Nat.not_lt.mpr q.1); exact absurd q.2 (Nat.not_lt.mpr hv))
    simp only [a_v, a_rv, e]
  | _ => rfl
theorem a_map_ext {ad ad' : Nat → Nat} {a b : Nat} (h : ∀ n, ¬ (a ≤ n ∧ n < b) → ad' n = ad n) {S : List Value} (hv : S.all (a_okv a b) = true) : S.map (a_v ad') = S.map (a_v ad) := by
  apply List.map_congr_left
  intro v hm
  exact a_v_ext h (List.all_eq_true.mp hv v hm)
theorem a_loc_ext {ad ad' : Nat → Nat} {a b : Nat} (h : ∀ n, ¬ (a ≤ n ∧ n < b) → ad' n = ad n) : ∀ (L : List Value) (k : Nat), L.all (a_okv a b) = true → a_loc ad' k L = a_loc ad k L
  | [], _, _ => rfl
  | v :: t, k, hv => by
    simp only [List.all_cons, Bool.and_eq_true] at hv
    have e := a_loc_ext h t (k + 1) hv.2
    have e2 := a_v_ext h hv.1
    cases v <;> simp only [a_loc, e, e2]
theorem a_G_ext {ad ad' : Nat → Nat} {A : Nat → Prop} {s : State} (h : ∀ n, 1000 ≤ n → ad' n = ad n) (hG : a_G ad A s) : a_G ad' A s := by
  have e1 : (fun j => ad' (1000000 + j)) = fun j => ad (1000000 + j) := funext fun j => h _ (by omega)
  have e2 : (fun j => ad' (1000100 + j)) = fun j => ad (1000100 + j) := funext fun j => h _ (by omega)
  have e3 : a_rv ad' 1500000 = a_rv ad 1500000 := by simp only [a_rv, h 1500000 (by omega)]
  obtain ⟨g1, g2, g3, g4, g5⟩ := hG
  refine ⟨by rw [e1, e2]; exact g1, fun q hq => ?_, g3, by rw [e3]; exact g4, g5⟩
  rw [h _ (by omega)]
  exact g2 q hq
theorem a_X_ext {ad ad' : Nat → Nat} {A : Nat → Prop} {s : State} {x : Option (Nat × (Nat → Int32))} (h : ∀ n, 1000 ≤ n → ad' n = ad n) (hX : a_X ad A s x) : a_X ad' A s x := by
  cases x with
  | none => trivial
  | some q =>
    obtain ⟨x1, x2, x3⟩ := hX
    have e := h 2000000 (by omega)
    exact ⟨by rw [e]; exact x1, by rw [e]; exact x2, by rw [e]; exact x3⟩
section EVA
variable {l : Launch} {d : Nat} {M : AMt} {pc : Nat} {L S : List Value} {σ : ASt} {Q : Option Value → ASt → Prop}
theorem Ev.grow {pc' : Nat} {S' : List Value} {σ' : ASt} (hpre : σ.1 <+: σ'.1) (hbc : σ'.1.length + aBc σ' ≤ σ.1.length + aBc σ) (hl' : σ'.1.length < 1000) (hmr : (∀ n k, n < σ.1.length → aMr σ n k < σ.1.length) → ∀ n k, n < σ'.1.length → aMr σ' n k < σ'.1.length) (hok : L.all (a_okv σ.1.length σ'.1.length) = true)
    (h : ∀ (p : Program) (e : Env) (R : Room) (s : State) (m : MethodId) (args : Array Value) (below : List Frame) (meth : Method) (c : Code) (D : va_G) (ad : Nat → Nat) (ac : Nat → ClassId) (A : Nat → Prop) (H : Heap) (locs : List Loc) (cells slots : Nat) (ls : Array Slot) (Z : State → Prop), a_Fix M p s m args meth c → a_G ad A s → a_W D ad ac σ A s H locs → cells + aBc σ ≤ R.cells → slots + aBs σ ≤ R.slots →
      (∀ (ad' : Nat → Nat) (ac' : Nat → ClassId) (H1 : Heap) (cells1 slots1 : Nat), (∀ n, ¬ (σ.1.length ≤ n ∧ n < σ'.1.length) → ad' n = ad n) → (∀ (n kd len : Nat), σ'.1[n + 1]? = some (.inr (kd, len)) → ArrOfT s (ac' (n + 1)) (a_kt kd) ∧ va_RA s (ac' (n + 1)) (a_kt kd)) → va_P D vwCl (a_ws ad' ac' σ') H1 → va_D A (a_ws ad' ac' σ') → va_S A s.heap H1 locs → cells1 + aBc σ' ≤ cells + aBc σ → slots1 + aBs σ' ≤ slots + aBs σ →
        W p l e R s m args below meth c H1 locs cells1 slots1 Z (F0 m pc' ls (S'.map (a_v ad')))) → W p l e R s m args below meth c H locs cells slots Z (F0 m pc ls (S.map (a_v ad))))
    (k : Ev l d M pc' (L, S', σ') Q) : Ev l d M pc (L, S, σ) Q := by
  intro p e R s m args below meth c D ad ac A H locs cells slots ls Z hF hG hX hW h1 h2 h3 h4 hl hret
  refine h p e R s m args below meth c D ad ac A H locs cells slots ls Z hF hG hW h3 h4 (fun ad' ac' H1 cells1 slots1 hx hA hP hD hS b1 b2 => ?_)
  have hle := hpre.length_le
  have hx2 : ∀ n, 1000 ≤ n → ad' n = ad n := fun n hn => hx n (by omega)
  have hW' : a_W D ad' ac' σ' A s H1 locs := by
    refine ⟨hW.1, hA, hP, hD, hW.2.2.2.2.1, hS, ?_, hl', hmr hW.2.2.2.2.2.2.2.2⟩
    obtain ⟨t, ht⟩ := hW.2.2.2.2.2.2.1
    obtain ⟨t2, ht2⟩ := hpre
    exact ⟨t ++ t2, by rw [← ht2, ht]; rfl⟩
  refine k p e R s m args below meth c D ad' ac' A H1 locs cells1 slots1 ls Z hF (a_G_ext hx2 hG) (a_X_ext hx2 hX) hW' h1 h2 (by dsimp only at b1 h3 ⊢; omega) (by dsimp only at b2 h4 ⊢; omega) (by dsimp only at hl ⊢; rw [a_loc_ext hx L 0 hok]; exact hl) (fun v σ2 ad2 ac2 H' locs' cells' slots' pc2 ls' hq hxx hw2 c1 c2 hr => ?_)
  refine hret v σ2 ad2 ac2 H' locs' cells' slots' pc2 ls' hq (a_ext_trans ⟨hx, hpre, hbc⟩ hxx) hw2 ?_ ?_ hr
  · dsimp only at b1 c1 ⊢; omega
  · dsimp only at b2 c2 ⊢; omega
/-- one cell more -/
def a_al (σ : ASt) (x : ASh) (n : Nat) : ASt := (σ.1 ++ [x], upF (aMi σ) σ.1.length (fun _ => 0), zL (aMl σ) σ.1.length, zR (aMr σ) σ.1.length, aBc σ - 1, aBs σ - n)
theorem a_rn_ext {ad ad' : Nat → Nat} {a n : Nat} (h : ∀ n, n ≠ a → ad' n = ad n) (hn : n < a) : a_rn ad' n = a_rn ad n := by
  unfold a_rn
  split
  · rfl
  · rw [h n (by omega)]
theorem a_cell_old {ad ad' : Nat → Nat} {ac ac' : Nat → ClassId} {σ : ASt} {x : ASh} {n j : Nat} (ha : ∀ n, n ≠ σ.1.length → ad' n = ad n) (hc : ∀ n, n ≠ σ.1.length → ac' n = ac n) (hmr : ∀ n k, n < σ.1.length → aMr σ n k < σ.1.length) (hj : j < σ.1.length) : a_cell ad' ac' (a_al σ x n) j = a_cell ad ac σ j := by
  have e1 : (a_al σ x n).1[j]? = σ.1[j]? := by
    show (σ.1 ++ [x])[j]? = _
    rw [List.getElem?_append_left hj]
  have e2 : aMi (a_al σ x n) j = aMi σ j := by simp only [aMi, a_al, upF]; rw [if_neg (by omega)]
  have e3 : aMl (a_al σ x n) j = aMl σ j := by simp only [aMl, a_al, zL]; rw [if_neg (by omega)]
  have e4 : aMr (a_al σ x n) j = aMr σ j := by simp only [aMr, a_al, zR]; rw [if_neg (by omega)]
  have e5 : ∀ k, a_rn ad' (aMr σ j k) = a_rn ad (aMr σ j k) := fun k => a_rn_ext ha (hmr j k hj)
  unfold a_cell
  rw [e1]
  unfold a_cellOf a_fld a_arr
  simp only [e2, e3, e4, e5, hc j (by omega)]
theorem a_ws_push {ad ad' : Nat → Nat} {ac ac' : Nat → ClassId} {σ : ASt} {x : ASh} {n : Nat} {q : Nat} {e : va_E} (h0 : 0 < σ.1.length) (ha : ∀ n, n ≠ σ.1.length → ad' n = ad n) (hq : ad' σ.1.length = q) (hc : ∀ n, n ≠ σ.1.length → ac' n = ac n) (hmr : ∀ n k, n < σ.1.length → aMr σ n k < σ.1.length) (he : a_cell ad' ac' (a_al σ x n) σ.1.length = e) : a_ws ad' ac' (a_al σ x n) = a_ws ad ac σ ++ [(q, e)] := by
  have hlen : (a_al σ x n).1.length = σ.1.length + 1 := by simp [a_al]
  apply List.ext_getElem?
  intro j
  by_cases h1 : j + 1 < σ.1.length
  · rw [a_ws_get (by omega), List.getElem?_append_left (by rw [a_ws_len]; omega), a_ws_get h1, a_cell_old ha hc hmr h1, ha _ (by omega)]
  · by_cases h2 : j + 1 = σ.1.length
    · rw [a_ws_get (by omega), h2, he, hq, List.getElem?_append_right (by rw [a_ws_len]; omega), a_ws_len, show j - (σ.1.length - 1) = 0 by omega]
      rfl
    · rw [List.getElem?_eq_none (by rw [a_ws_len]; omega), List.getElem?_eq_none (by simp [a_ws_len]; omega)]
theorem a_al_mr {σ : ASt} {x : ASh} {n : Nat} (h : ∀ n k, n < σ.1.length → aMr σ n k < σ.1.length) : ∀ m k, m < (a_al σ x n).1.length → aMr (a_al σ x n) m k < (a_al σ x n).1.length := by
  intro m k hm
  have hlen : (a_al σ x n).1.length = σ.1.length + 1 := by simp [a_al]
  rw [hlen] at hm ⊢
  simp only [aMr, a_al, zR]
  split
  · exact Nat.succ_pos _
  · have := h m k (by omega)
    dsimp only [aMr] at this
    omega
theorem a_al_arr {s : State} {ac ac' : Nat → ClassId} {σ : ASt} {x : ASh} {n : Nat} (h0 : 0 < σ.1.length) (hc : ∀ n, n ≠ σ.1.length → ac' n = ac n) (h : ∀ (n kd len : Nat), σ.1[n + 1]? = some (.inr (kd, len)) → ArrOfT s (ac (n + 1)) (a_kt kd) ∧ va_RA s (ac (n + 1)) (a_kt kd)) (hx : ∀ kd len, x = .inr (kd, len) → ArrOfT s (ac' σ.1.length) (a_kt kd) ∧ va_RA s (ac' σ.1.length) (a_kt kd)) :
    ∀ (m kd len : Nat), (a_al σ x n).1[m + 1]? = some (.inr (kd, len)) → ArrOfT s (ac' (m + 1)) (a_kt kd) ∧ va_RA s (ac' (m + 1)) (a_kt kd) := by
  intro m kd len hm
  have hm2 : (σ.1 ++ [x])[m + 1]? = some (.inr (kd, len)) := hm
  by_cases h1 : m + 1 < σ.1.length
  · rw [List.getElem?_append_left h1] at hm2
    rw [hc _ (by omega)]
    exact h m kd len hm2
  · have h2 : m + 1 = σ.1.length := by
      have := (List.getElem?_eq_some_iff.mp hm2).1
      simp at this
      omega
    rw [h2, List.getElem?_append_right (Nat.le_refl _), Nat.sub_self] at hm2
    rw [h2]
    exact hx kd len (by simpa using hm2)
theorem ev_new {ci idx N : Nat} {C : String} {T : u_T} (hc : vwCl[ci]? = some (C, T, N)) (hw : Cond.classLink M.1.cls idx C ∈ a_tbl) (hi : Cond.instantiable C N ∈ a_tbl) (hin : Cond.initialized C ∈ a_tbl) (hl : σ.1.length + 1 < 1000) (h0 : 0 < σ.1.length) (hb : 1 ≤ aBc σ) (hs : N ≤ aBs σ) (hok : (L ++ S).all (a_okv σ.1.length (σ.1.length + 1)) = true) (hd : decode M.2.1 pc = .ok (.new idx, 3))
    (kk : Ev l d M (pc + 3) (L, .ref σ.1.length :: S, a_al σ (.inl ci) N) Q) : Ev l d M pc (L, S, σ) Q := by
  have hlen : (a_al σ (.inl ci) N).1.length = σ.1.length + 1 := by simp [a_al]
  rw [List.all_append, Bool.and_eq_true] at hok
  refine Ev.grow (σ' := a_al σ (.inl ci) N) ⟨_, rfl⟩ (by rw [hlen]; show σ.1.length + 1 + (aBc σ - 1) ≤ _; omega) (by rw [hlen]; exact hl) a_al_mr (by rw [hlen]; exact hok.1) (fun p e R s m args below meth c D ad ac A H locs cells slots ls Z hF hG hW h3 h4 kw => ?_) kk
  obtain ⟨hN, hinT, hnm, ty0, hty, hrt⟩ := a_ck hc
  have hts := hF.2.2.2.2.2.2.2
  refine va_new (C := C) (T := T) (N := N) (fs := (List.range N).map fun k => if a_rf ci k = true then Value.null else .int 0) hF.1 hF.2.1 hts hinT ty0 hty hF.2.2.2.1 (hts _ hw) (hts _ hi) (hts _ hin) hW.1 hW.2.2.1 hW.2.2.2.1 hW.2.2.2.2.2.1 hW.2.2.2.2.1 hc ?_ (by omega) (by omega) hd (fun q H1 hP hD hS => ?_)
  · intro j hj
    unfold vp_V
    rw [List.getD_eq_getElem?_getD, List.getElem?_map, List.getElem?_range hj]
    rcases hrt j hj with ⟨r1, r2⟩ | ⟨r1, r2⟩
    · simp [r1, r2, defaultValue]
    · revert r2
      cases ty0 j <;> simp [a_isRf, r1, defaultValue]
  · have ha : ∀ n, n ≠ σ.1.length → va_up ad σ.1.length q n = ad n := fun n hn => if_neg hn
    have hq : va_up ad σ.1.length q σ.1.length = q := if_pos rfl
    have hcell : a_cell (va_up ad σ.1.length q) ac (a_al σ (.inl ci) N) σ.1.length = .inr (ci, (List.range N).map fun k => if a_rf ci k = true then Value.null else .int 0) := by
      unfold a_cell
      have : (a_al σ (.inl ci) N).1[σ.1.length]? = some (.inl ci) := by simp [a_al]
      rw [this]
      simp only [a_cellOf, a_fld, hN]
      congr 2
      apply List.map_congr_left
      intro k _
      simp [a_al, aMi, aMr, upF, zR, a_rn, va_rf]
    have hws := a_ws_push (n := N) (x := .inl ci) h0 ha hq (fun n _ => rfl) hW.2.2.2.2.2.2.2.2 hcell
    have hmap : (Value.ref q :: S.map (a_v ad)) = (.ref σ.1.length :: S).map (a_v (va_up ad σ.1.length q)) := by
      rw [List.map_cons, a_map_ext (a := σ.1.length) (b := σ.1.length + 1) (fun n hn => ha n (by omega)) hok.2]
      congr 1
      simp only [a_v, a_rv]
      rw [if_neg (by omega), hq]
    rw [hmap]
    refine kw (va_up ad σ.1.length q) ac H1 (cells + 1) (slots + N) (fun n hn => ha n (by rw [hlen] at hn; omega)) (a_al_arr h0 (fun n _ => rfl) hW.2.1 (fun _ _ h => by cases h)) (by rw [hws]; exact hP) (by rw [hws]; exact hD) hS ?_ ?_
    · show cells + 1 + (aBc σ - 1) ≤ _; omega
    · show slots + N + (aBs σ - N) ≤ _; omega
theorem ev_newa {atype : ArrayType} {kd : Nat} {n : Int32} {N : Nat} (hk : kd ≤ 3) (hty : newarray.typeOf atype = a_kt kd) (hw : Cond.arrayClass (newarray.typeOf atype) ∈ a_tbl) (hn : ¬ n < 0) (hN : n.toNatClampNeg = N) (hN2 : N ≤ 20000) (hl : σ.1.length + 1 < 1000) (h0 : 0 < σ.1.length) (hb : 1 ≤ aBc σ) (hs : N ≤ aBs σ) (hok : (L ++ S).all (a_okv σ.1.length (σ.1.length + 1)) = true) (hd : decode M.2.1 pc = .ok (.newarray atype, 2))
    (kk : Ev l d M (pc + 2) (L, .ref σ.1.length :: S, a_al σ (.inr (kd, N)) N) Q) : Ev l d M pc (L, .int n :: S, σ) Q := by
  have hlen : (a_al σ (.inr (kd, N)) N).1.length = σ.1.length + 1 := by simp [a_al]
  rw [List.all_append, Bool.and_eq_true] at hok
  refine Ev.grow (σ' := a_al σ (.inr (kd, N)) N) ⟨_, rfl⟩ (by rw [hlen]; show σ.1.length + 1 + (aBc σ - 1) ≤ _; omega) (by rw [hlen]; exact hl) a_al_mr (by rw [hlen]; exact hok.1) (fun p e R s m args below meth c D ad ac A H locs cells slots ls Z hF hG hW h3 h4 kw => ?_) kk
  have hts := hF.2.2.2.2.2.2.2
  have hbyt : N * componentBytes (a_kt kd) ≤ 536870912 := by
    have : componentBytes (a_kt kd) ≤ 8 := by
      rcases (show kd = 0 ∨ kd = 1 ∨ kd = 2 ∨ kd = 3 by omega) with rfl | rfl | rfl | rfl <;> decide
    calc N * componentBytes (a_kt kd) ≤ 20000 * 8 := Nat.mul_le_mul hN2 this
      _ ≤ 536870912 := by decide
  refine va_newa (a0 := (N, a_arr ad (a_al σ (.inr (kd, N)) N) σ.1.length kd)) hF.1 hF.2.1 (hts _ hw) hty hW.1 hW.2.2.1 hW.2.2.2.1 hW.2.2.2.2.2.1 hW.2.2.2.2.1 ?_ hn hN hbyt (by omega) (by omega) hd (fun q cA H1 hK hP hD hS => ?_)
  · intro cA
    rcases (show kd = 0 ∨ kd = 1 ∨ kd = 2 ∨ kd = 3 by omega) with rfl | rfl | rfl | rfl <;> simp [a_arr, a_al, aMi, aMl, upF, zL, vp_cell, a_kt, defaultValue, arrV, arrCell, arrSlots]
  · have ha : ∀ n, n ≠ σ.1.length → va_up ad σ.1.length q n = ad n := fun n hn => if_neg hn
    have hq : va_up ad σ.1.length q σ.1.length = q := if_pos rfl
    have hca : ∀ n, n ≠ σ.1.length → va_up ac σ.1.length cA n = ac n := fun n hn => if_neg hn
    have hcq : va_up ac σ.1.length cA σ.1.length = cA := if_pos rfl
    have hcell : a_cell (va_up ad σ.1.length q) (va_up ac σ.1.length cA) (a_al σ (.inr (kd, N)) N) σ.1.length = .inl (cA, N, a_arr ad (a_al σ (.inr (kd, N)) N) σ.1.length kd) := by
      unfold a_cell
      have : (a_al σ (.inr (kd, N)) N).1[σ.1.length]? = some (.inr (kd, N)) := by simp [a_al]
      rw [this]
      simp only [a_cellOf, hcq]
      congr 3
      unfold a_arr
      rcases (show kd = 0 ∨ kd = 1 ∨ kd = 2 ∨ kd = 3 by omega) with rfl | rfl | rfl | rfl <;> simp
    have hws := a_ws_push (n := N) (x := .inr (kd, N)) h0 ha hq hca hW.2.2.2.2.2.2.2.2 hcell
    have hmap : (Value.ref q :: S.map (a_v ad)) = (.ref σ.1.length :: S).map (a_v (va_up ad σ.1.length q)) := by
      rw [List.map_cons, a_map_ext (a := σ.1.length) (b := σ.1.length + 1) (fun n hn => ha n (by omega)) hok.2]
      congr 1
      simp only [a_v, a_rv]
      rw [if_neg (by omega), hq]
    rw [hmap]
    refine kw (va_up ad σ.1.length q) (va_up ac σ.1.length cA) H1 (cells + 1) (slots + N) (fun n hn => ha n (by rw [hlen] at hn; omega)) (a_al_arr h0 hca hW.2.1 (fun k2 l2 h => by cases h; rw [hcq]; exact hK.2 0 (cA, a_kt kd) rfl)) (by rw [hws]; exact hP) (by rw [hws]; exact hD) hS ?_ ?_
    · show cells + 1 + (aBc σ - 1) ≤ _; omega
    · show slots + N + (aBs σ - N) ≤ _; omega
theorem ev_newq {idx kd : Nat} {C : String} {n : Int32} {N : Nat} (hk : kd = 4 ∧ C = "BeckChoice$Scene" ∨ kd = 5 ∧ C = "BeckChoice$Tray") (hw : Cond.classLink M.1.cls idx C ∈ a_tbl) (hn : ¬ n < 0) (hN : n.toNatClampNeg = N) (hN2 : N ≤ 20000) (hl : σ.1.length + 1 < 1000) (h0 : 0 < σ.1.length) (hb : 1 ≤ aBc σ) (hs : N ≤ aBs σ) (hok : (L ++ S).all (a_okv σ.1.length (σ.1.length + 1)) = true) (hd : decode M.2.1 pc = .ok (.anewarray idx, 3))
    (kk : Ev l d M (pc + 3) (L, .ref σ.1.length :: S, a_al σ (.inr (kd, N)) N) Q) : Ev l d M pc (L, .int n :: S, σ) Q := by
  have hlen : (a_al σ (.inr (kd, N)) N).1.length = σ.1.length + 1 := by simp [a_al]
  rw [List.all_append, Bool.and_eq_true] at hok
  refine Ev.grow (σ' := a_al σ (.inr (kd, N)) N) ⟨_, rfl⟩ (by rw [hlen]; show σ.1.length + 1 + (aBc σ - 1) ≤ _; omega) (by rw [hlen]; exact hl) a_al_mr (by rw [hlen]; exact hok.1) (fun p e R s m args below meth c D ad ac A H locs cells slots ls Z hF hG hW h3 h4 kw => ?_) kk
  have hts := hF.2.2.2.2.2.2.2
  have hAO : va_AO C s := by
    rcases hk with ⟨-, rfl⟩ | ⟨-, rfl⟩
    · exact hG.2.2.2.2.2.1
    · exact hG.2.2.2.2.2.2.1
  have hkt : a_kt kd = .object C := by
    rcases hk with ⟨rfl, rfl⟩ | ⟨rfl, rfl⟩ <;> rfl
  refine va_newq hF.1 hF.2.1 hF.2.2.2.1 (hts _ hw) hAO hW.1 hW.2.2.1 hW.2.2.2.1 hW.2.2.2.2.2.1 hW.2.2.2.2.1 hn hN (by omega) (by omega) (by omega) hd (fun q cA H1 hK hP hD hS => ?_)
  have ha : ∀ n, n ≠ σ.1.length → va_up ad σ.1.length q n = ad n := fun n hn => if_neg hn
  have hq : va_up ad σ.1.length q σ.1.length = q := if_pos rfl
  have hca : ∀ n, n ≠ σ.1.length → va_up ac σ.1.length cA n = ac n := fun n hn => if_neg hn
  have hcq : va_up ac σ.1.length cA σ.1.length = cA := if_pos rfl
  have hcell : a_cell (va_up ad σ.1.length q) (va_up ac σ.1.length cA) (a_al σ (.inr (kd, N)) N) σ.1.length = .inl (cA, N, .inr (.inr (.inr (.inr (fun _ => none))))) := by
    unfold a_cell
    have : (a_al σ (.inr (kd, N)) N).1[σ.1.length]? = some (.inr (kd, N)) := by simp [a_al]
    rw [this]
    simp only [a_cellOf, hcq]
    congr 3
    unfold a_arr
    rcases hk with ⟨rfl, -⟩ | ⟨rfl, -⟩ <;> simp [a_al, aMr, zR, a_rn]
  have hws := a_ws_push (n := N) (x := .inr (kd, N)) h0 ha hq hca hW.2.2.2.2.2.2.2.2 hcell
  have hmap : (Value.ref q :: S.map (a_v ad)) = (.ref σ.1.length :: S).map (a_v (va_up ad σ.1.length q)) := by
    rw [List.map_cons, a_map_ext (a := σ.1.length) (b := σ.1.length + 1) (fun n hn => ha n (by omega)) hok.2]
    congr 1
    simp only [a_v, a_rv]
    rw [if_neg (by omega), hq]
  rw [hmap]
  refine kw (va_up ad σ.1.length q) (va_up ac σ.1.length cA) H1 (cells + 1) (slots + N) (fun n hn => ha n (by rw [hlen] at hn; omega)) (a_al_arr h0 hca hW.2.1 (fun k2 l2 h => by cases h; rw [hcq, hkt]; exact hK.2 0 (cA, .object C) rfl)) (by rw [hws]; exact hP) (by rw [hws]; exact hD) hS ?_ ?_
  · show cells + 1 + (aBc σ - 1) ≤ _; omega
  · show slots + N + (aBs σ - N) ≤ _; omega
end EVA
