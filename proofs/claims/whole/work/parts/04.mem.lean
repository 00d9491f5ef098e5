/-! ===== memory ===== -/
def up (f : Nat → Nat → Int32) (n k : Nat) (x : Int32) : Nat → Nat → Int32 := fun a => if a = n then upd (f n) k x else f a
def upL (f : Nat → Nat → Int64) (n k : Nat) (x : Int64) : Nat → Nat → Int64 := fun a => if a = n then vp_updL (f n) k x else f a
def upR (f : Nat → Nat → Nat) (n k x : Nat) : Nat → Nat → Nat := fun a => if a = n then va_up (f n) k x else f a
def upF (f : Nat → Nat → Int32) (n : Nat) (g : Nat → Int32) : Nat → Nat → Int32 := fun a => if a = n then g else f a
def zL (f : Nat → Nat → Int64) (n : Nat) : Nat → Nat → Int64 := fun a => if a = n then (fun _ => 0) else f a
def zR (f : Nat → Nat → Nat) (n : Nat) : Nat → Nat → Nat := fun a => if a = n then (fun _ => 0) else f a
theorem u_ws_in {C : String} {T : u_T} {N : Nat} (h : (u_ws C T N).all goodWord = true) (h2 : ∀ w ∈ u_ws C T N, w ∈ lw_tbl) : ∀ w ∈ u_ws C T N, w ∈ a_tbl := fun w hw => List.mem_filter.mpr ⟨h2 w hw, List.all_eq_true.mp h w hw⟩
theorem a_in0 : ∀ w ∈ u_ws RX0 TX0 14, w ∈ a_tbl := u_ws_in (by decide +kernel) (fun w h => (goodIn_r (big := lw_tbl) _ [218, 220, 222, 224, 226, 228, 230, 232, 234, 236, 238, 240, 242, 244] (by decide +kernel) (by decide +kernel) w h).1)
theorem a_in1 : ∀ w ∈ u_ws RX1 TX1 2, w ∈ a_tbl := u_ws_in (by decide +kernel) (fun w h => (goodIn_r (big := lw_tbl) _ [305, 307] (by decide +kernel) (by decide +kernel) w h).1)
theorem a_in2 : ∀ w ∈ u_ws RX2 TX2 4, w ∈ a_tbl := u_ws_in (by decide +kernel) (fun w h => (goodIn_r (big := lw_tbl) _ [394, 396, 398, 400] (by decide +kernel) (by decide +kernel) w h).1)
theorem a_in3 : ∀ w ∈ u_ws RX3 TX3 4, w ∈ a_tbl := u_ws_in (by decide +kernel) (fun w h => (goodIn_r (big := lw_tbl) _ [370, 372, 374, 376] (by decide +kernel) (by decide +kernel) w h).1)
theorem a_in4 : ∀ w ∈ u_ws RX4 TX4 2, w ∈ a_tbl := u_ws_in (by decide +kernel) (fun w h => (goodIn_r (big := lw_tbl) _ [292, 294] (by decide +kernel) (by decide +kernel) w h).1)
theorem a_in5 : ∀ w ∈ u_ws RX5 TX5 8, w ∈ a_tbl := u_ws_in (by decide +kernel) (fun w h => (goodIn_r (big := lw_tbl) _ [339, 341, 343, 345, 347, 349, 351, 353] (by decide +kernel) (by decide +kernel) w h).1)
theorem a_in6 : ∀ w ∈ u_ws RX6 TX6 7, w ∈ a_tbl := u_ws_in (by decide +kernel) (fun w h => (goodIn_r (big := lw_tbl) _ [515, 517, 519, 521, 523, 525, 527] (by decide +kernel) (by decide +kernel) w h).1)
theorem a_in7 : ∀ w ∈ u_ws RX7 TX7 14, w ∈ a_tbl := u_ws_in (by decide +kernel) (fun w h => (goodIn_r (big := lw_tbl) _ [430, 432, 434, 436, 438, 440, 442, 444, 446, 448, 450, 452, 454, 456] (by decide +kernel) (by decide +kernel) w h).1)
theorem a_in8 : ∀ w ∈ u_ws RX8 TX8 8, w ∈ a_tbl := u_ws_in (by decide +kernel) (fun w h => (goodIn_r (big := lw_tbl) _ [267, 269, 271, 273, 275, 277, 279, 281] (by decide +kernel) (by decide +kernel) w h).1)
theorem a_in9 : ∀ w ∈ u_ws RX9 TX9 3, w ∈ a_tbl := u_ws_in (by decide +kernel) (fun w h => (goodIn_r (big := lw_tbl) _ [542, 544, 546] (by decide +kernel) (by decide +kernel) w h).1)
theorem a_in10 : ∀ w ∈ u_ws RX10 TX10 11, w ∈ a_tbl := u_ws_in (by decide +kernel) (fun w h => (goodIn_r (big := lw_tbl) _ [477, 479, 481, 483, 485, 487, 489, 491, 493, 495, 497] (by decide +kernel) (by decide +kernel) w h).1)
theorem a_in11 : ∀ w ∈ u_ws RX11 TX11 19, w ∈ a_tbl := u_ws_in (by decide +kernel) (fun w h => (goodIn_r (big := lw_tbl) _ [629, 631, 633, 635, 637, 639, 641, 643, 645, 647, 649, 651, 653, 655, 657, 659, 661, 663, 665] (by decide +kernel) (by decide +kernel) w h).1)
theorem a_in12 : ∀ w ∈ u_ws RX12 TX12 35, w ∈ a_tbl := u_ws_in (by decide +kernel) (fun w h => (goodIn_r (big := lw_tbl) _ [1567, 1569, 1571, 1573, 1575, 1577, 1579, 1581, 1583, 1585, 1587, 1589, 1591, 1593, 1595, 1597, 1599, 1601, 1603, 1605, 1607, 1609, 1611, 1613, 1615, 1617, 1619, 1621, 1623, 1625, 1627, 1629, 1631, 1633, 1635] (by decide +kernel) (by decide +kernel) w h).1)
def a_isRf (ty : FieldType) : Bool := match ty with
  | .object _ => true
  | .array _ => true
  | _ => false
/-- what is known of the classes -/
def a_CK (ci : Nat) (C : String) (T : u_T) (N : Nat) : Prop := N = a_nf ci ∧ (∀ w ∈ u_ws C T N, w ∈ a_tbl) ∧ (∀ a, a < N → ∀ b, b < N → a ≠ b → (T a).2.1 ≠ (T b).2.1) ∧ ∃ ty0 : Nat → FieldType, (∀ k, k < N → parseFieldDescriptor (T k).2.2.1 = some (ty0 k)) ∧ (∀ k, k < N → (a_rf ci k = false ∧ ty0 k = .int) ∨ (a_rf ci k = true ∧ a_isRf (ty0 k) = true))
theorem a_ck {ci : Nat} {C : String} {T : u_T} {N : Nat} (h : vwCl[ci]? = some (C, T, N)) : a_CK ci C T N := by
  match ci, h with
  | 0, h => cases h; exact ⟨rfl, a_in0, nmX0, tyX0, tyX0_ok, by decide +kernel⟩
  | 1, h => cases h; exact ⟨rfl, a_in1, nmX1, tyX1, tyX1_ok, by decide +kernel⟩
  | 2, h => cases h; exact ⟨rfl, a_in2, nmX2, tyX2, tyX2_ok, by decide +kernel⟩
  | 3, h => cases h; exact ⟨rfl, a_in3, nmX3, tyX3, tyX3_ok, by decide +kernel⟩
  | 4, h => cases h; exact ⟨rfl, a_in4, nmX4, tyX4, tyX4_ok, by decide +kernel⟩
  | 5, h => cases h; exact ⟨rfl, a_in5, nmX5, tyX5, tyX5_ok, by decide +kernel⟩
  | 6, h => cases h; exact ⟨rfl, a_in6, nmX6, tyX6, tyX6_ok, by decide +kernel⟩
  | 7, h => cases h; exact ⟨rfl, a_in7, nmX7, tyX7, tyX7_ok, by decide +kernel⟩
  | 8, h => cases h; exact ⟨rfl, a_in8, nmX8, tyX8, tyX8_ok, by decide +kernel⟩
  | 9, h => cases h; exact ⟨rfl, a_in9, nmX9, tyX9, tyX9_ok, by decide +kernel⟩
  | 10, h => cases h; exact ⟨rfl, a_in10, nmX10, tyX10, tyX10_ok, by decide +kernel⟩
  | 11, h => cases h; exact ⟨rfl, a_in11, nmX11, tyX11, tyX11_ok, by decide +kernel⟩
  | 12, h => cases h; exact ⟨rfl, a_in12, nmX12, tyX12, tyX12_ok, by decide +kernel⟩
  | k + 13, h => simp [vwCl] at h
/-- a link of a field: of class ci, its slot k -/
def a_FL (own : String) (idx ci k : Nat) : Prop := ∃ (C : String) (T : u_T) (N : Nat), vwCl[ci]? = some (C, T, N) ∧ k < N ∧ Cond.fieldLink own idx (T k).1 (T k).2.1 (T k).2.2.1 ∈ a_tbl
theorem a_ws_len (ad : Nat → Nat) (ac : Nat → ClassId) (σ : ASt) : (a_ws ad ac σ).length = σ.1.length - 1 := by simp [a_ws]
theorem a_ws_get {ad : Nat → Nat} {ac : Nat → ClassId} {σ : ASt} {n : Nat} (h : n + 1 < σ.1.length) : (a_ws ad ac σ)[n]? = some (ad (n + 1), a_cell ad ac σ (n + 1)) := by
  unfold a_ws
  rw [List.getElem?_map, List.getElem?_range (by omega)]
  rfl
theorem a_ws_set {ad : Nat → Nat} {ac : Nat → ClassId} {σ σ' : ASt} {n : Nat} {e : va_E} (hs : σ'.1 = σ.1) (hj : ∀ j, j ≠ n + 1 → a_cell ad ac σ' j = a_cell ad ac σ j) (he : a_cell ad ac σ' (n + 1) = e) : (a_ws ad ac σ).set n (ad (n + 1), e) = a_ws ad ac σ' := by
  apply List.ext_getElem?
  intro j
  rw [List.getElem?_set, a_ws_len]
  by_cases h : n = j
  · subst h
    rw [if_pos rfl]
    by_cases hl : n < σ.1.length - 1
    · rw [if_pos hl, a_ws_get (by rw [hs]; omega), he]
    · rw [if_neg hl, List.getElem?_eq_none]
      rw [a_ws_len, hs]
      omega
  · rw [if_neg h]
    by_cases hl : j + 1 < σ.1.length
    · rw [a_ws_get hl, a_ws_get (by rw [hs]; exact hl), hj (j + 1) (by omega)]
    · rw [List.getElem?_eq_none (by rw [a_ws_len]; omega), List.getElem?_eq_none (by rw [a_ws_len, hs]; omega)]
/-- a name of the world: its place -/
theorem a_nm {D : va_G} {ad : Nat → Nat} {ac : Nat → ClassId} {σ : ASt} {A : Nat → Prop} {s : State} {H : Heap} {locs : List Loc} (hW : a_W D ad ac σ A s H locs) {n : Nat} {x : ASh} (h : σ.1[n]? = some x) (hx : x ≠ .inr (7, 0)) : ∃ j, n = j + 1 ∧ j + 1 < σ.1.length ∧ (a_ws ad ac σ)[j]? = some (ad n, a_cellOf ad ac σ n (some x)) ∧ a_v ad (.ref n) = .ref (ad n) := by
  obtain ⟨-, -, -, -, -, -, ⟨t, ht⟩, hlen, -⟩ := hW
  have hl : n < σ.1.length := (List.getElem?_eq_some_iff.mp h).1
  cases n with
  | zero => rw [ht] at h; simp at h; exact absurd h.symm hx
  | succ j =>
    refine ⟨j, rfl, hl, ?_, ?_⟩
    · rw [a_ws_get hl]
      unfold a_cell
      rw [h]
    · simp only [a_v, a_rv]
      rw [if_neg (by omega)]
theorem a_nmK {D : va_G} {ad : Nat → Nat} {ac : Nat → ClassId} {σ : ASt} {A : Nat → Prop} {s : State} {H : Heap} {locs : List Loc} (hW : a_W D ad ac σ A s H locs) {n kd len : Nat} (h : σ.1[n]? = some (.inr (kd, len))) (hx : kd ≠ 7) : va_K D vwCl [(ac n, a_kt kd)] s := by
  obtain ⟨j, rfl, -, -, -⟩ := a_nm hW h (by intro e; cases e; exact hx rfl)
  refine ⟨hW.1.1, fun k q hq => ?_⟩
  match k, hq with
  | 0, hq => cases hq; exact hW.2.1 j kd len h
  | k + 1, hq => simp at hq
section EVM
variable {l : Launch} {d : Nat} {M : AMt} {pc : Nat} {L S : List Value} {σ : ASt} {Q : Option Value → ASt → Prop}
/-- an instruction that reads the world -/
theorem Ev.rd {pc' : Nat} {S' : List Value}
    (h : ∀ (p : Program) (e : Env) (R : Room) (s : State) (m : MethodId) (args : Array Value) (below : List Frame) (meth : Method) (c : Code) (D : va_G) (ad : Nat → Nat) (ac : Nat → ClassId) (A : Nat → Prop) (H : Heap) (locs : List Loc) (cells slots : Nat) (ls : Array Slot) (Z : State → Prop), a_Fix M p s m args meth c → a_G ad A s → a_X ad A s M.2.2.2.2 → a_W D ad ac σ A s H locs →
      W p l e R s m args below meth c H locs cells slots Z (F0 m pc' ls (S'.map (a_v ad))) → W p l e R s m args below meth c H locs cells slots Z (F0 m pc ls (S.map (a_v ad))))
    (k : Ev l d M pc' (L, S', σ) Q) : Ev l d M pc (L, S, σ) Q := by
  intro p e R s m args below meth c D ad ac A H locs cells slots ls Z hF hG hX hW h1 h2 h3 h4 hl hret
  exact h p e R s m args below meth c D ad ac A H locs cells slots ls Z hF hG hX hW (k p e R s m args below meth c D ad ac A H locs cells slots ls Z hF hG hX hW h1 h2 h3 h4 hl hret)
/-- an instruction that writes the world -/
theorem Ev.wr {pc' : Nat} {S' : List Value} {σ' : ASt} (hsh : σ'.1 = σ.1) (hbc : σ'.2.2.2.2 = σ.2.2.2.2) (hmr : (∀ n k, n < σ.1.length → aMr σ n k < σ.1.length) → ∀ n k, n < σ.1.length → aMr σ' n k < σ.1.length)
    (h : ∀ (p : Program) (e : Env) (R : Room) (s : State) (m : MethodId) (args : Array Value) (below : List Frame) (meth : Method) (c : Code) (D : va_G) (ad : Nat → Nat) (ac : Nat → ClassId) (A : Nat → Prop) (H : Heap) (locs : List Loc) (cells slots : Nat) (ls : Array Slot) (Z : State → Prop), a_Fix M p s m args meth c → a_G ad A s → a_W D ad ac σ A s H locs → d ≤ R.frames → 64 * d ≤ R.locals → ls.size = M.2.2.1 →
      (∀ (H1 : Heap) (locs1 : List Loc), va_P D vwCl (a_ws ad ac σ') H1 → va_D A (a_ws ad ac σ') → va_S A s.heap H1 locs1 → W p l e R s m args below meth c H1 locs1 cells slots Z (F0 m pc' ls (S'.map (a_v ad)))) → W p l e R s m args below meth c H locs cells slots Z (F0 m pc ls (S.map (a_v ad))))
    (k : Ev l d M pc' (L, S', σ') Q) : Ev l d M pc (L, S, σ) Q := by
  intro p e R s m args below meth c D ad ac A H locs cells slots ls Z hF hG hX hW h1 h2 h3 h4 hl hret
  have eb : aBc σ' = aBc σ := congrArg Prod.fst hbc
  have es : aBs σ' = aBs σ := congrArg Prod.snd hbc
  refine h p e R s m args below meth c D ad ac A H locs cells slots ls Z hF hG hW h1 h2 hl.1 (fun H1 locs1 hP hD hS => ?_)
  have hW' : a_W D ad ac σ' A s H1 locs1 := ⟨hW.1, fun n kd len h => hW.2.1 n kd len (by rw [← hsh]; exact h), hP, hD, hW.2.2.2.2.1, hS, by rw [hsh]; exact hW.2.2.2.2.2.2.1, by rw [hsh]; exact hW.2.2.2.2.2.2.2.1, by rw [hsh]; exact hmr hW.2.2.2.2.2.2.2.2⟩
  refine k p e R s m args below meth c D ad ac A H1 locs1 cells slots ls Z hF hG hX hW' h1 h2 (by show cells + aBc σ' ≤ _; rw [eb]; exact h3) (by show slots + aBs σ' ≤ _; rw [es]; exact h4) hl (fun v σ2 ad' ac' H' locs' cells' slots' pc2 ls' hq hx hw2 b1 b2 hr => ?_)
  refine hret v σ2 ad' ac' H' locs' cells' slots' pc2 ls' hq ?_ hw2 ?_ ?_ hr
  · obtain ⟨x1, x2, x3⟩ := hx
    dsimp only at x1 x2 x3 ⊢
    rw [hsh] at x1 x2 x3
    rw [eb] at x3
    exact ⟨x1, x2, x3⟩
  · have : aBc σ' = aBc σ := eb
    dsimp only at b1 ⊢
    omega
  · have : aBs σ' = aBs σ := es
    dsimp only at b2 ⊢
    omega
theorem ev_getI {n ci k idx : Nat} (hf : a_FL M.1.cls idx ci k) (hr : a_rf ci k = false) (ho : σ.1[n]? = some (.inl ci)) (hd : decode M.2.1 pc = .ok (.getfield idx, 3)) (kk : Ev l d M (pc + 3) (L, .int (aMi σ n k) :: S, σ) Q) : Ev l d M pc (L, .ref n :: S, σ) Q := by
  refine Ev.rd (fun p e R s m args below meth c D ad ac A H locs cells slots ls Z hF hG hX hW kw => ?_) kk
  obtain ⟨C, T, N, hc, hk, hlk⟩ := hf
  obtain ⟨hN, hin, hnm, ty0, hty, hrt⟩ := a_ck hc
  obtain ⟨j, hj, hjl, hg, hv⟩ := a_nm hW ho (by simp)
  simp only [List.map_cons, hv]
  have hts := hF.2.2.2.2.2.2.2
  refine va_get (C := C) (T := T) (N := N) hF.1 hF.2.1 hts hin hF.2.2.2.1 hW.1 hW.2.2.1 j hg hc k hk (hts _ hlk) (fun _ h => h) ?_ hd kw
  unfold a_fld
  rw [List.getElem?_map, List.getElem?_range (by rw [← hN]; exact hk)]
  simp [hr, a_v]
theorem ev_getR {n ci k idx : Nat} (hf : a_FL M.1.cls idx ci k) (hr : a_rf ci k = true) (ho : σ.1[n]? = some (.inl ci)) (hz : 0 < aMr σ n k ∧ aMr σ n k < 1000) (hd : decode M.2.1 pc = .ok (.getfield idx, 3)) (kk : Ev l d M (pc + 3) (L, .ref (aMr σ n k) :: S, σ) Q) : Ev l d M pc (L, .ref n :: S, σ) Q := by
  refine Ev.rd (fun p e R s m args below meth c D ad ac A H locs cells slots ls Z hF hG hX hW kw => ?_) kk
  obtain ⟨C, T, N, hc, hk, hlk⟩ := hf
  obtain ⟨hN, hin, hnm, ty0, hty, hrt⟩ := a_ck hc
  obtain ⟨j, hj, hjl, hg, hv⟩ := a_nm hW ho (by simp)
  simp only [List.map_cons, hv]
  have hts := hF.2.2.2.2.2.2.2
  refine va_get (C := C) (T := T) (N := N) hF.1 hF.2.1 hts hin hF.2.2.2.1 hW.1 hW.2.2.1 j hg hc k hk (hts _ hlk) (fun _ h => h) ?_ hd kw
  unfold a_fld
  rw [List.getElem?_map, List.getElem?_range (by rw [← hN]; exact hk)]
  simp only [hr, Option.map_some, if_true, a_v, a_rv, a_rn]
  rw [if_neg (by omega), if_neg (by omega)]
  rfl
theorem a_fldI {ad : Nat → Nat} {σ : ASt} {n ci k : Nat} {x : Int32} (hr : a_rf ci k = false) : a_fld ad (σ.1, up (aMi σ) n k x, σ.2.2) n ci = (a_fld ad σ n ci).set k (.int x) := by
  apply List.ext_getElem?
  intro j
  unfold a_fld
  rw [List.getElem?_set, List.getElem?_map, List.getElem?_map, List.length_map, List.length_range]
  by_cases hl : j < a_nf ci
  · rw [List.getElem?_range hl]
    by_cases e : k = j
    · subst e
      simp [hr, hl, up, upd, aMi]
    · have e2 : ¬ j = k := fun q => e q.symm
      simp [e, up, upd, e2, aMi, aMr]
  · rw [List.getElem?_eq_none (by simpa using hl)]
    by_cases e : k = j
    · subst e
      simp [hl]
    · simp [e]
theorem a_fldR {ad : Nat → Nat} {σ : ASt} {n ci k y : Nat} (hr : a_rf ci k = true) : a_fld ad (σ.1, σ.2.1, σ.2.2.1, upR (aMr σ) n k y, σ.2.2.2.2) n ci = (a_fld ad σ n ci).set k (va_rf (a_rn ad y)) := by
  apply List.ext_getElem?
  intro j
  unfold a_fld
  rw [List.getElem?_set, List.getElem?_map, List.getElem?_map, List.length_map, List.length_range]
  by_cases hl : j < a_nf ci
  · rw [List.getElem?_range hl]
    by_cases e : k = j
    · subst e
      simp [hr, hl, upR, va_up, aMr]
    · have e2 : ¬ j = k := fun q => e q.symm
      simp [e, upR, va_up, e2, aMr, aMi]
  · rw [List.getElem?_eq_none (by simpa using hl)]
    by_cases e : k = j
    · subst e
      simp [hl]
    · simp [e]
end EVM
