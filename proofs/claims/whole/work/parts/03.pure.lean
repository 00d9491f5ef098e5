/-! ===== what a row of code does ===== -/
theorem a_rv_cases (ad : Nat → Nat) (n : Nat) : (∃ x, a_rv ad n = .ref x) ∨ a_rv ad n = .null := by
  unfold a_rv
  split
  · split
    · exact Or.inr rfl
    · exact Or.inl ⟨_, rfl⟩
  · exact Or.inl ⟨_, rfl⟩
theorem a_v_cat (ad : Nat → Nat) (v : Value) : (a_v ad v).category = v.category := by
  cases v with
  | ref n =>
    rcases a_rv_cases ad n with ⟨x, h⟩ | h <;> simp [a_v, h, Value.category]
  | _ => rfl
theorem a_loc_mem {ad : Nat → Nat} : ∀ (L : List Value) (k i : Nat) (v : Value), L[i]? = some v → (∀ x, v ≠ .retAddr x) → (k + i, a_v ad v) ∈ a_loc ad k L
  | [], k, i, v, h, _ => by simp at h
  | u :: t, k, 0, v, h, hn => by
    simp at h
    subst h
    cases u <;> first | (exact absurd rfl (hn _)) | (simp [a_loc])
  | u :: t, k, i + 1, v, h, hn => by
    have h2 := a_loc_mem (ad := ad) t (k + 1) i v (by simpa using h) hn
    have e : k + 1 + i = k + (i + 1) := by omega
    rw [e] at h2
    cases u <;> simp [a_loc, h2]
theorem a_loc_of {ad : Nat → Nat} : ∀ (L : List Value) (k : Nat) (q : Nat × Value), q ∈ a_loc ad k L → ∃ i v, L[i]? = some v ∧ (∀ x, v ≠ .retAddr x) ∧ q = (k + i, a_v ad v)
  | [], k, q, h => by simp [a_loc] at h
  | u :: t, k, q, h => by
    have go : q ∈ a_loc ad (k + 1) t → ∃ i v, (u :: t)[i]? = some v ∧ (∀ x, v ≠ .retAddr x) ∧ q = (k + i, a_v ad v) := fun h => by
      obtain ⟨i, v, h1, h2, h3⟩ := a_loc_of t (k + 1) q h
      exact ⟨i + 1, v, by simpa using h1, h2, by rw [h3]; congr 1; omega⟩
    have here : (∀ x, u ≠ .retAddr x) → q = (k, a_v ad u) → ∃ i v, (u :: t)[i]? = some v ∧ (∀ x, v ≠ .retAddr x) ∧ q = (k + i, a_v ad v) := fun h1 h2 => ⟨0, u, rfl, h1, h2⟩
    cases u with
    | retAddr x => exact go (by simpa [a_loc] using h)
    | _ =>
      simp only [a_loc, List.mem_cons] at h
      rcases h with h | h
      · exact here (fun x => by simp) h
      · exact go h
def a_st1 (L : List Value) (i : Nat) : Bool := match i with
  | 0 => true
  | k + 1 => match L.getD k (.retAddr 0) with
    | .long _ => false
    | .double _ => false
    | _ => true
theorem a_st1_of {L : List Value} {j : Nat} {u : Value} (h : a_st1 L (j + 1) = true) (hj : L[j]? = some u) : ¬ u.category = 2 := by
  intro hc
  have e : L.getD j (.retAddr 0) = u := by simp [List.getD, hj]
  simp only [a_st1, e] at h
  cases u <;> simp [Value.category] at hc h
theorem a_store1 {ad : Nat → Nat} {ls : Array Slot} {nL : Nat} {L : List Value} {i : Nat} {v : Value} (hs : a_st1 L i = true)
    (h : lv_has ls nL ((i, a_v ad v) :: (a_loc ad 0 L).filter (fun q => !(q.1 == i) && !(q.1 + 1 == i && q.2.category == 2)))) : lv_has ls nL (a_loc ad 0 (L.set i v)) := by
  refine ⟨h.1, h.2.1, fun q hq => h.2.2 q ?_⟩
  obtain ⟨j, u, h1, h2, rfl⟩ := a_loc_of _ _ _ hq
  by_cases e : i = j
  · subst e
    by_cases hl : i < L.length
    · have : u = v := by
        have := h1
        simp [List.getElem?_set, hl] at this
        exact this.symm
      subst this
      simp
    · simp [List.getElem?_set, hl] at h1
  · rw [List.getElem?_set_ne e] at h1
    refine List.mem_cons_of_mem _ (List.mem_filter.mpr ⟨a_loc_mem L 0 j u h1 h2, ?_⟩)
    have e1 : ¬ (0 + j = i) := by omega
    by_cases e2 : 0 + j + 1 = i
    · have : i = j + 1 := by omega
      subst this
      have := a_st1_of hs h1
      simp [a_v_cat, this]
    · simp [e1, e2]
      omega
theorem a_store2 {ad : Nat → Nat} {ls : Array Slot} {nL : Nat} {L : List Value} {i : Nat} {v : Value} (hs : a_st1 L i = true)
    (h : lv_has ls nL ((i, a_v ad v) :: (a_loc ad 0 L).filter (fun q => !(q.1 == i) && (!(q.1 == i + 1) && !(q.1 + 1 == i && q.2.category == 2))))) : lv_has ls nL (a_loc ad 0 ((L.set i v).set (i + 1) (.retAddr 0))) := by
  refine ⟨h.1, h.2.1, fun q hq => h.2.2 q ?_⟩
  obtain ⟨j, u, h1, h2, rfl⟩ := a_loc_of _ _ _ hq
  by_cases e0 : i + 1 = j
  · subst e0
    by_cases hl : i + 1 < (L.set i v).length
    · rw [List.getElem?_set, if_pos rfl, if_pos hl] at h1
      cases h1
      exact absurd rfl (h2 0)
    · rw [List.getElem?_eq_none (by simp at hl ⊢; omega)] at h1
      cases h1
  · rw [List.getElem?_set_ne e0] at h1
    by_cases e : i = j
    · subst e
      by_cases hl : i < L.length
      · have : u = v := by
          have := h1
          simp [List.getElem?_set, hl] at this
          exact this.symm
        subst this
        simp
      · simp [List.getElem?_set, hl] at h1
    · rw [List.getElem?_set_ne e] at h1
      refine List.mem_cons_of_mem _ (List.mem_filter.mpr ⟨a_loc_mem L 0 j u h1 h2, ?_⟩)
      have e1 : ¬ (0 + j = i) := by omega
      have e3 : ¬ (0 + j = i + 1) := by omega
      by_cases e2 : 0 + j + 1 = i
      · have : i = j + 1 := by omega
        subst this
        have := a_st1_of hs h1
        simp [a_v_cat, this]
        omega
      · simp [e1, e2, e3]
        omega
theorem a_get {ad : Nat → Nat} {ls : Array Slot} {nL : Nat} {L : List Value} {i : Nat} {v : Value} (h : lv_has ls nL (a_loc ad 0 L)) (hv : L.getD i (.retAddr 0) = v) (hn : ∀ x, v ≠ .retAddr x) : ls[i]? = some (.val (a_v ad v)) := by
  have hi : L[i]? = some v := by
    cases hq : L[i]? with
    | none => simp [List.getD, hq] at hv; exact absurd hv.symm (hn 0)
    | some u => simp [List.getD, hq] at hv; rw [hv]
  have := h.2.2 _ (a_loc_mem L 0 i v hi hn)
  simpa using this
def a_rem (x y : Int32) : Int32 := x - x / y * y
def a_reml (x y : Int64) : Int64 := x - x / y * y
def a_ushr (x y : Int32) : Int32 := (x.toUInt32 >>> (y.toUInt32 &&& Int32.toUInt32 31)).toInt32
section EVP
variable {l : Launch} {d : Nat} {M : AMt} {pc : Nat} {L S : List Value} {σ : ASt} {Q : Option Value → ASt → Prop}
theorem ev_iconst {n : Int} {v : Int32} (hv : Int32.ofInt n = v) (hd : decode M.2.1 pc = .ok (.iconst n, 1)) (k : Ev l d M (pc + 1) (L, .int v :: S, σ) Q) : Ev l d M pc (L, S, σ) Q := by
  refine Ev.pure (fun p e R s m args below meth c ad A H locs cells slots ls Z hF hG hX hS hl kk => ?_) k
  exact lv_iconst hF.1 hF.2.1 hd hv (kk ls hl)
theorem ev_bipush {n : Int} {v : Int32} (hv : (Int8.ofInt n).toInt32 = v) (hd : decode M.2.1 pc = .ok (.bipush n, 2)) (k : Ev l d M (pc + 2) (L, .int v :: S, σ) Q) : Ev l d M pc (L, S, σ) Q := by
  refine Ev.pure (fun p e R s m args below meth c ad A H locs cells slots ls Z hF hG hX hS hl kk => ?_) k
  exact lv_bipush hF.1 hF.2.1 hd hv (kk ls hl)
theorem ev_sipush {n : Int} {v : Int32} (hv : (Int16.ofInt n).toInt32 = v) (hd : decode M.2.1 pc = .ok (.sipush n, 3)) (k : Ev l d M (pc + 3) (L, .int v :: S, σ) Q) : Ev l d M pc (L, S, σ) Q := by
  refine Ev.pure (fun p e R s m args below meth c ad A H locs cells slots ls Z hF hG hX hS hl kk => ?_) k
  exact lv_sipush hF.1 hF.2.1 hd hv (kk ls hl)
theorem ev_lconst {n : Fin 2} {v : Int64} (hv : Int64.ofNat (n : Nat) = v) (hd : decode M.2.1 pc = .ok (.lconst n, 1)) (k : Ev l d M (pc + 1) (L, .long v :: S, σ) Q) : Ev l d M pc (L, S, σ) Q := by
  refine Ev.pure (fun p e R s m args below meth c ad A H locs cells slots ls Z hF hG hX hS hl kk => ?_) k
  exact lv_lconst hF.1 hF.2.1 hd hv (kk ls hl)
theorem ev_ldc {i : Nat} {v : Int32} (hw : Cond.constant M.1.cls i v ∈ a_tbl) (hd : decode M.2.1 pc = .ok (.ldc i, 2)) (k : Ev l d M (pc + 2) (L, .int v :: S, σ) Q) : Ev l d M pc (L, S, σ) Q := by
  refine Ev.pure (fun p e R s m args below meth c ad A H locs cells slots ls Z hF hG hX hS hl kk => ?_) k
  exact lv_ldc hF.1 hF.2.1 hF.2.2.2.1 (hF.2.2.2.2.2.2.2 _ hw) hd (kk ls hl)
theorem ev_ldcw {i : Nat} {v : Int32} (hw : Cond.constant M.1.cls i v ∈ a_tbl) (hd : decode M.2.1 pc = .ok (.ldc_w i, 3)) (k : Ev l d M (pc + 3) (L, .int v :: S, σ) Q) : Ev l d M pc (L, S, σ) Q := by
  refine Ev.pure (fun p e R s m args below meth c ad A H locs cells slots ls Z hF hG hX hS hl kk => ?_) k
  exact lv_ldcw hF.1 hF.2.1 hF.2.2.2.1 (hF.2.2.2.2.2.2.2 _ hw) hd (kk ls hl)
theorem ev_ldc2 {i : Nat} {v : Int64} (hw : Cond.constantLong M.1.cls i v ∈ a_tbl) (hd : decode M.2.1 pc = .ok (.ldc2_w i, 3)) (k : Ev l d M (pc + 3) (L, .long v :: S, σ) Q) : Ev l d M pc (L, S, σ) Q := by
  refine Ev.pure (fun p e R s m args below meth c ad A H locs cells slots ls Z hF hG hX hS hl kk => ?_) k
  exact lv_ldc2 hF.1 hF.2.1 hF.2.2.2.1 (hF.2.2.2.2.2.2.2 _ hw) hd (kk ls hl)
theorem ev_ldcS {i j : Nat} {tx : String} (hw : (M.1.cls, i, tx, j) ∈ a_sk) (hj : 1000000 + j ≠ 1500000) (hd : decode M.2.1 pc = .ok (.ldc i, 2)) (k : Ev l d M (pc + 2) (L, .ref (1000000 + j) :: S, σ) Q) : Ev l d M pc (L, S, σ) Q := by
  refine Ev.pure (fun p e R s m args below meth c ad A H locs cells slots ls Z hF hG hX hS hl kk => ?_) k
  have e : a_v ad (.ref (1000000 + j)) = .ref (ad (1000000 + j)) := by simp [a_v, a_rv, hj]
  have kk2 := kk ls hl
  simp only [List.map_cons, e] at kk2
  exact va_ldcS hF.1 hF.2.1 hF.2.2.2.1 (hG.2.1 _ hw) hd kk2
theorem ev_iload_n {n : Fin 4} {i : Nat} {x : Int32} (hi : (n : Nat) = i) (hx : L.getD i (.retAddr 0) = .int x) (hd : decode M.2.1 pc = .ok (.iload_n n, 1)) (k : Ev l d M (pc + 1) (L, .int x :: S, σ) Q) : Ev l d M pc (L, S, σ) Q := by
  refine Ev.pure (fun p e R s m args below meth c ad A H locs cells slots ls Z hF hG hX hS hl kk => ?_) k
  exact lv_iload_n hF.1 hF.2.1 hd hi (a_get hl hx (by simp)) (kk ls hl)
theorem ev_iload {i : Nat} {x : Int32} (hx : L.getD i (.retAddr 0) = .int x) (hd : decode M.2.1 pc = .ok (.iload i, 2)) (k : Ev l d M (pc + 2) (L, .int x :: S, σ) Q) : Ev l d M pc (L, S, σ) Q := by
  refine Ev.pure (fun p e R s m args below meth c ad A H locs cells slots ls Z hF hG hX hS hl kk => ?_) k
  exact lv_iload hF.1 hF.2.1 hd (a_get hl hx (by simp)) (kk ls hl)
theorem ev_lload_n {n : Fin 4} {i : Nat} {x : Int64} (hi : (n : Nat) = i) (hx : L.getD i (.retAddr 0) = .long x) (hd : decode M.2.1 pc = .ok (.lload_n n, 1)) (k : Ev l d M (pc + 1) (L, .long x :: S, σ) Q) : Ev l d M pc (L, S, σ) Q := by
  refine Ev.pure (fun p e R s m args below meth c ad A H locs cells slots ls Z hF hG hX hS hl kk => ?_) k
  exact lv_lload_n hF.1 hF.2.1 hd hi (a_get hl hx (by simp)) (kk ls hl)
theorem ev_lload {i : Nat} {x : Int64} (hx : L.getD i (.retAddr 0) = .long x) (hd : decode M.2.1 pc = .ok (.lload i, 2)) (k : Ev l d M (pc + 2) (L, .long x :: S, σ) Q) : Ev l d M pc (L, S, σ) Q := by
  refine Ev.pure (fun p e R s m args below meth c ad A H locs cells slots ls Z hF hG hX hS hl kk => ?_) k
  exact lv_lload hF.1 hF.2.1 hd (a_get hl hx (by simp)) (kk ls hl)
theorem ev_aload_n {n : Fin 4} {i x : Nat} (hi : (n : Nat) = i) (hx : L.getD i (.retAddr 0) = .ref x) (hd : decode M.2.1 pc = .ok (.aload_n n, 1)) (k : Ev l d M (pc + 1) (L, .ref x :: S, σ) Q) : Ev l d M pc (L, S, σ) Q := by
  refine Ev.pure (fun p e R s m args below meth c ad A H locs cells slots ls Z hF hG hX hS hl kk => ?_) k
  have hg := a_get hl hx (by simp)
  have e : a_v ad (.ref x) = a_rv ad x := rfl
  have kk2 := kk ls hl
  rw [e] at hg
  simp only [List.map_cons, e] at kk2
  rcases a_rv_cases ad x with ⟨y, hy⟩ | hy
  · rw [hy] at hg kk2
    exact lv_aload_n hF.1 hF.2.1 hd hi hg kk2
  · rw [hy] at hg kk2
    exact lv_aload_nN hF.1 hF.2.1 hd hi hg kk2
theorem ev_aload {i x : Nat} (hx : L.getD i (.retAddr 0) = .ref x) (hd : decode M.2.1 pc = .ok (.aload i, 2)) (k : Ev l d M (pc + 2) (L, .ref x :: S, σ) Q) : Ev l d M pc (L, S, σ) Q := by
  refine Ev.pure (fun p e R s m args below meth c ad A H locs cells slots ls Z hF hG hX hS hl kk => ?_) k
  have hg := a_get hl hx (by simp)
  have e : a_v ad (.ref x) = a_rv ad x := rfl
  have kk2 := kk ls hl
  rw [e] at hg
  simp only [List.map_cons, e] at kk2
  rcases a_rv_cases ad x with ⟨y, hy⟩ | hy
  · rw [hy] at hg kk2
    exact lv_aload hF.1 hF.2.1 hd hg kk2
  · rw [hy] at hg kk2
    exact lv_aloadN hF.1 hF.2.1 hd hg kk2
theorem ev_istore_n {n : Fin 4} {i : Nat} {x : Int32} (hi : (n : Nat) = i) (hn : i < M.2.2.1) (hs : a_st1 L i = true) (hd : decode M.2.1 pc = .ok (.istore_n n, 1)) (k : Ev l d M (pc + 1) (L.set i (.int x), S, σ) Q) : Ev l d M pc (L, .int x :: S, σ) Q := by
  refine Ev.pure (fun p e R s m args below meth c ad A H locs cells slots ls Z hF hG hX hS hl kk => ?_) k
  exact lv_istore_n hF.1 hF.2.1 hd hi hl hn rfl (fun ls hl => kk ls (a_store1 (v := .int x) hs hl))
theorem ev_istore {i : Nat} {x : Int32} (hn : i < M.2.2.1) (hs : a_st1 L i = true) (hd : decode M.2.1 pc = .ok (.istore i, 2)) (k : Ev l d M (pc + 2) (L.set i (.int x), S, σ) Q) : Ev l d M pc (L, .int x :: S, σ) Q := by
  refine Ev.pure (fun p e R s m args below meth c ad A H locs cells slots ls Z hF hG hX hS hl kk => ?_) k
  exact lv_istore hF.1 hF.2.1 hd hl hn rfl (fun ls hl => kk ls (a_store1 (v := .int x) hs hl))
theorem ev_lstore_n {n : Fin 4} {i : Nat} {x : Int64} (hi : (n : Nat) = i) (hn : i + 1 < M.2.2.1) (hs : a_st1 L i = true) (hd : decode M.2.1 pc = .ok (.lstore_n n, 1)) (k : Ev l d M (pc + 1) ((L.set i (.long x)).set (i + 1) (.retAddr 0), S, σ) Q) : Ev l d M pc (L, .long x :: S, σ) Q := by
  refine Ev.pure (fun p e R s m args below meth c ad A H locs cells slots ls Z hF hG hX hS hl kk => ?_) k
  exact lv_lstore_n hF.1 hF.2.1 hd hi hl hn rfl (fun ls hl => kk ls (a_store2 (v := .long x) hs hl))
theorem ev_lstore {i : Nat} {x : Int64} (hn : i + 1 < M.2.2.1) (hs : a_st1 L i = true) (hd : decode M.2.1 pc = .ok (.lstore i, 2)) (k : Ev l d M (pc + 2) ((L.set i (.long x)).set (i + 1) (.retAddr 0), S, σ) Q) : Ev l d M pc (L, .long x :: S, σ) Q := by
  refine Ev.pure (fun p e R s m args below meth c ad A H locs cells slots ls Z hF hG hX hS hl kk => ?_) k
  exact lv_lstore hF.1 hF.2.1 hd hl hn rfl (fun ls hl => kk ls (a_store2 (v := .long x) hs hl))
theorem ev_astore_n {n : Fin 4} {i x : Nat} (hi : (n : Nat) = i) (hn : i < M.2.2.1) (hs : a_st1 L i = true) (hd : decode M.2.1 pc = .ok (.astore_n n, 1)) (k : Ev l d M (pc + 1) (L.set i (.ref x), S, σ) Q) : Ev l d M pc (L, .ref x :: S, σ) Q := by
  refine Ev.pure (fun p e R s m args below meth c ad A H locs cells slots ls Z hF hG hX hS hl kk => ?_) k
  have e : a_v ad (.ref x) = a_rv ad x := rfl
  simp only [List.map_cons, e]
  have st := fun ls h => kk ls (a_store1 (ad := ad) (v := .ref x) hs h)
  rw [e] at st
  rcases a_rv_cases ad x with ⟨y, hy⟩ | hy
  · rw [hy] at st ⊢
    exact lv_astore_n hF.1 hF.2.1 hd hi hl hn rfl st
  · rw [hy] at st ⊢
    exact lv_astore_nN hF.1 hF.2.1 hd hi hl hn rfl st
theorem ev_astore {i x : Nat} (hn : i < M.2.2.1) (hs : a_st1 L i = true) (hd : decode M.2.1 pc = .ok (.astore i, 2)) (k : Ev l d M (pc + 2) (L.set i (.ref x), S, σ) Q) : Ev l d M pc (L, .ref x :: S, σ) Q := by
  refine Ev.pure (fun p e R s m args below meth c ad A H locs cells slots ls Z hF hG hX hS hl kk => ?_) k
  have e : a_v ad (.ref x) = a_rv ad x := rfl
  simp only [List.map_cons, e]
  have st := fun ls h => kk ls (a_store1 (ad := ad) (v := .ref x) hs h)
  rw [e] at st
  rcases a_rv_cases ad x with ⟨y, hy⟩ | hy
  · rw [hy] at st ⊢
    exact lv_astore hF.1 hF.2.1 hd hl hn rfl st
  · rw [hy] at st ⊢
    exact lv_astoreN hF.1 hF.2.1 hd hl hn rfl st
theorem ev_iinc {i : Nat} {n : Int} {x v : Int32} (hx : L.getD i (.retAddr 0) = .int x) (hv : Int32.ofInt n = v) (hn : i < M.2.2.1) (hs : a_st1 L i = true) (hd : decode M.2.1 pc = .ok (.iinc i n, 3)) (k : Ev l d M (pc + 3) (L.set i (.int (x + v)), S, σ) Q) : Ev l d M pc (L, S, σ) Q := by
  refine Ev.pure (fun p e R s m args below meth c ad A H locs cells slots ls Z hF hG hX hS hl kk => ?_) k
  have hi : L[i]? = some (.int x) := by
    cases hq : L[i]? with
    | none => simp [List.getD, hq] at hx
    | some u => simp [List.getD, hq] at hx; rw [hx]
  have hm := a_loc_mem (ad := ad) L 0 i _ hi (by simp)
  obtain ⟨k9, hk9⟩ := List.getElem?_of_mem hm
  simp only [Nat.zero_add] at hk9
  exact lv_iinc hF.1 hF.2.1 hd hl hk9 (by rw [hv]) hn rfl (fun ls hl => kk ls (a_store1 (v := .int (x + v)) hs hl))
theorem ev_iadd {x y : Int32} (hd : decode M.2.1 pc = .ok (.iadd, 1)) (k : Ev l d M (pc + 1) (L, .int (x + y) :: S, σ) Q) : Ev l d M pc (L, .int y :: .int x :: S, σ) Q := by
  refine Ev.pure (fun p e R s m args below meth c ad A H locs cells slots ls Z hF hG hX hS hl kk => ?_) k
  exact lv_iadd hF.1 hF.2.1 hd (kk ls hl)
theorem ev_isub {x y : Int32} (hd : decode M.2.1 pc = .ok (.isub, 1)) (k : Ev l d M (pc + 1) (L, .int (x - y) :: S, σ) Q) : Ev l d M pc (L, .int y :: .int x :: S, σ) Q := by
  refine Ev.pure (fun p e R s m args below meth c ad A H locs cells slots ls Z hF hG hX hS hl kk => ?_) k
  exact lv_isub hF.1 hF.2.1 hd (kk ls hl)
theorem ev_imul {x y : Int32} (hd : decode M.2.1 pc = .ok (.imul, 1)) (k : Ev l d M (pc + 1) (L, .int (x * y) :: S, σ) Q) : Ev l d M pc (L, .int y :: .int x :: S, σ) Q := by
  refine Ev.pure (fun p e R s m args below meth c ad A H locs cells slots ls Z hF hG hX hS hl kk => ?_) k
  exact lv_imul hF.1 hF.2.1 hd (kk ls hl)
theorem ev_iand {x y : Int32} (hd : decode M.2.1 pc = .ok (.iand, 1)) (k : Ev l d M (pc + 1) (L, .int (x &&& y) :: S, σ) Q) : Ev l d M pc (L, .int y :: .int x :: S, σ) Q := by
  refine Ev.pure (fun p e R s m args below meth c ad A H locs cells slots ls Z hF hG hX hS hl kk => ?_) k
  exact lv_iand hF.1 hF.2.1 hd (kk ls hl)
theorem ev_ior {x y : Int32} (hd : decode M.2.1 pc = .ok (.ior, 1)) (k : Ev l d M (pc + 1) (L, .int (x ||| y) :: S, σ) Q) : Ev l d M pc (L, .int y :: .int x :: S, σ) Q := by
  refine Ev.pure (fun p e R s m args below meth c ad A H locs cells slots ls Z hF hG hX hS hl kk => ?_) k
  exact lv_ior hF.1 hF.2.1 hd (kk ls hl)
theorem ev_ixor {x y : Int32} (hd : decode M.2.1 pc = .ok (.ixor, 1)) (k : Ev l d M (pc + 1) (L, .int (x ^^^ y) :: S, σ) Q) : Ev l d M pc (L, .int y :: .int x :: S, σ) Q := by
  refine Ev.pure (fun p e R s m args below meth c ad A H locs cells slots ls Z hF hG hX hS hl kk => ?_) k
  exact lv_ixor hF.1 hF.2.1 hd (kk ls hl)
theorem ev_ladd {x y : Int64} (hd : decode M.2.1 pc = .ok (.ladd, 1)) (k : Ev l d M (pc + 1) (L, .long (x + y) :: S, σ) Q) : Ev l d M pc (L, .long y :: .long x :: S, σ) Q := by
  refine Ev.pure (fun p e R s m args below meth c ad A H locs cells slots ls Z hF hG hX hS hl kk => ?_) k
  exact lv_ladd hF.1 hF.2.1 hd (kk ls hl)
theorem ev_lsub {x y : Int64} (hd : decode M.2.1 pc = .ok (.lsub, 1)) (k : Ev l d M (pc + 1) (L, .long (x - y) :: S, σ) Q) : Ev l d M pc (L, .long y :: .long x :: S, σ) Q := by
  refine Ev.pure (fun p e R s m args below meth c ad A H locs cells slots ls Z hF hG hX hS hl kk => ?_) k
  exact lv_lsub hF.1 hF.2.1 hd (kk ls hl)
theorem ev_lmul {x y : Int64} (hd : decode M.2.1 pc = .ok (.lmul, 1)) (k : Ev l d M (pc + 1) (L, .long (x * y) :: S, σ) Q) : Ev l d M pc (L, .long y :: .long x :: S, σ) Q := by
  refine Ev.pure (fun p e R s m args below meth c ad A H locs cells slots ls Z hF hG hX hS hl kk => ?_) k
  exact lv_lmul hF.1 hF.2.1 hd (kk ls hl)
theorem ev_land {x y : Int64} (hd : decode M.2.1 pc = .ok (.land, 1)) (k : Ev l d M (pc + 1) (L, .long (x &&& y) :: S, σ) Q) : Ev l d M pc (L, .long y :: .long x :: S, σ) Q := by
  refine Ev.pure (fun p e R s m args below meth c ad A H locs cells slots ls Z hF hG hX hS hl kk => ?_) k
  exact lv_land hF.1 hF.2.1 hd (kk ls hl)
theorem ev_lor {x y : Int64} (hd : decode M.2.1 pc = .ok (.lor, 1)) (k : Ev l d M (pc + 1) (L, .long (x ||| y) :: S, σ) Q) : Ev l d M pc (L, .long y :: .long x :: S, σ) Q := by
  refine Ev.pure (fun p e R s m args below meth c ad A H locs cells slots ls Z hF hG hX hS hl kk => ?_) k
  exact lv_lor hF.1 hF.2.1 hd (kk ls hl)
theorem ev_idiv {x y : Int32} (hne : ¬ y = 0) (hd : decode M.2.1 pc = .ok (.idiv, 1)) (k : Ev l d M (pc + 1) (L, .int (x / y) :: S, σ) Q) : Ev l d M pc (L, .int y :: .int x :: S, σ) Q := by
  refine Ev.pure (fun p e R s m args below meth c ad A H locs cells slots ls Z hF hG hX hS hl kk => ?_) k
  exact lv_idiv hF.1 hF.2.1 hd hne (kk ls hl)
theorem ev_irem {x y : Int32} (hne : ¬ y = 0) (hd : decode M.2.1 pc = .ok (.irem, 1)) (k : Ev l d M (pc + 1) (L, .int (a_rem x y) :: S, σ) Q) : Ev l d M pc (L, .int y :: .int x :: S, σ) Q := by
  refine Ev.pure (fun p e R s m args below meth c ad A H locs cells slots ls Z hF hG hX hS hl kk => ?_) k
  exact lv_irem hF.1 hF.2.1 hd hne (kk ls hl)
theorem ev_ldiv {x y : Int64} (hne : ¬ y = 0) (hd : decode M.2.1 pc = .ok (.ldiv, 1)) (k : Ev l d M (pc + 1) (L, .long (x / y) :: S, σ) Q) : Ev l d M pc (L, .long y :: .long x :: S, σ) Q := by
  refine Ev.pure (fun p e R s m args below meth c ad A H locs cells slots ls Z hF hG hX hS hl kk => ?_) k
  exact lv_ldiv hF.1 hF.2.1 hd hne (kk ls hl)
theorem ev_lrem {x y : Int64} (hne : ¬ y = 0) (hd : decode M.2.1 pc = .ok (.lrem, 1)) (k : Ev l d M (pc + 1) (L, .long (a_reml x y) :: S, σ) Q) : Ev l d M pc (L, .long y :: .long x :: S, σ) Q := by
  refine Ev.pure (fun p e R s m args below meth c ad A H locs cells slots ls Z hF hG hX hS hl kk => ?_) k
  exact lv_lrem hF.1 hF.2.1 hd hne (kk ls hl)
theorem ev_ishl {x y : Int32} (hd : decode M.2.1 pc = .ok (.ishl, 1)) (k : Ev l d M (pc + 1) (L, .int (x <<< (y &&& 31)) :: S, σ) Q) : Ev l d M pc (L, .int y :: .int x :: S, σ) Q := by
  refine Ev.pure (fun p e R s m args below meth c ad A H locs cells slots ls Z hF hG hX hS hl kk => ?_) k
  exact lv_ishl hF.1 hF.2.1 hd (kk ls hl)
theorem ev_ishr {x y : Int32} (hd : decode M.2.1 pc = .ok (.ishr, 1)) (k : Ev l d M (pc + 1) (L, .int (x >>> (y &&& 31)) :: S, σ) Q) : Ev l d M pc (L, .int y :: .int x :: S, σ) Q := by
  refine Ev.pure (fun p e R s m args below meth c ad A H locs cells slots ls Z hF hG hX hS hl kk => ?_) k
  exact lv_ishr hF.1 hF.2.1 hd (kk ls hl)
theorem ev_iushr {x y : Int32} (hd : decode M.2.1 pc = .ok (.iushr, 1)) (k : Ev l d M (pc + 1) (L, .int (a_ushr x y) :: S, σ) Q) : Ev l d M pc (L, .int y :: .int x :: S, σ) Q := by
  refine Ev.pure (fun p e R s m args below meth c ad A H locs cells slots ls Z hF hG hX hS hl kk => ?_) k
  exact lv_iushr hF.1 hF.2.1 hd rfl (kk ls hl)
theorem ev_lshl {x : Int64} {y : Int32} (hd : decode M.2.1 pc = .ok (.lshl, 1)) (k : Ev l d M (pc + 1) (L, .long (x <<< (y.toInt64 &&& 63)) :: S, σ) Q) : Ev l d M pc (L, .int y :: .long x :: S, σ) Q := by
  refine Ev.pure (fun p e R s m args below meth c ad A H locs cells slots ls Z hF hG hX hS hl kk => ?_) k
  exact lv_lshl hF.1 hF.2.1 hd rfl (kk ls hl)
theorem ev_lshr {x : Int64} {y : Int32} (hd : decode M.2.1 pc = .ok (.lshr, 1)) (k : Ev l d M (pc + 1) (L, .long (x >>> (y.toInt64 &&& 63)) :: S, σ) Q) : Ev l d M pc (L, .int y :: .long x :: S, σ) Q := by
  refine Ev.pure (fun p e R s m args below meth c ad A H locs cells slots ls Z hF hG hX hS hl kk => ?_) k
  exact lv_lshr hF.1 hF.2.1 hd rfl (kk ls hl)
theorem ev_i2l {x : Int32} (hd : decode M.2.1 pc = .ok (.i2l, 1)) (k : Ev l d M (pc + 1) (L, .long (x.toInt64) :: S, σ) Q) : Ev l d M pc (L, .int x :: S, σ) Q := by
  refine Ev.pure (fun p e R s m args below meth c ad A H locs cells slots ls Z hF hG hX hS hl kk => ?_) k
  exact lv_i2l hF.1 hF.2.1 hd rfl (kk ls hl)
theorem ev_l2i {x : Int64} (hd : decode M.2.1 pc = .ok (.l2i, 1)) (k : Ev l d M (pc + 1) (L, .int (x.toInt32) :: S, σ) Q) : Ev l d M pc (L, .long x :: S, σ) Q := by
  refine Ev.pure (fun p e R s m args below meth c ad A H locs cells slots ls Z hF hG hX hS hl kk => ?_) k
  exact lv_l2i hF.1 hF.2.1 hd rfl (kk ls hl)
theorem ev_i2b {x : Int32} (hd : decode M.2.1 pc = .ok (.i2b, 1)) (k : Ev l d M (pc + 1) (L, .int (x.toInt8.toInt32) :: S, σ) Q) : Ev l d M pc (L, .int x :: S, σ) Q := by
  refine Ev.pure (fun p e R s m args below meth c ad A H locs cells slots ls Z hF hG hX hS hl kk => ?_) k
  exact lv_i2b hF.1 hF.2.1 hd rfl (kk ls hl)
theorem ev_i2s {x : Int32} (hd : decode M.2.1 pc = .ok (.i2s, 1)) (k : Ev l d M (pc + 1) (L, .int (x.toInt16.toInt32) :: S, σ) Q) : Ev l d M pc (L, .int x :: S, σ) Q := by
  refine Ev.pure (fun p e R s m args below meth c ad A H locs cells slots ls Z hF hG hX hS hl kk => ?_) k
  exact lv_i2s hF.1 hF.2.1 hd rfl (kk ls hl)
theorem ev_i2c {x : Int32} (hd : decode M.2.1 pc = .ok (.i2c, 1)) (k : Ev l d M (pc + 1) (L, .int ((x.toUInt32 % 65536).toInt32) :: S, σ) Q) : Ev l d M pc (L, .int x :: S, σ) Q := by
  refine Ev.pure (fun p e R s m args below meth c ad A H locs cells slots ls Z hF hG hX hS hl kk => ?_) k
  exact lv_i2c hF.1 hF.2.1 hd rfl (kk ls hl)
theorem ev_lcmp {x y : Int64} (hd : decode M.2.1 pc = .ok (.lcmp, 1)) (k : Ev l d M (pc + 1) (L, .int (lg_cmp x y) :: S, σ) Q) : Ev l d M pc (L, .long y :: .long x :: S, σ) Q := by
  refine Ev.pure (fun p e R s m args below meth c ad A H locs cells slots ls Z hF hG hX hS hl kk => ?_) k
  exact W.lcmp hF.1 hF.2.1 hd (kk ls hl)
theorem ev_dup {v : Value} (hc : v.category = 1) (hd : decode M.2.1 pc = .ok (.dup, 1)) (k : Ev l d M (pc + 1) (L, v :: v :: S, σ) Q) : Ev l d M pc (L, v :: S, σ) Q := by
  refine Ev.pure (fun p e R s m args below meth c ad A H locs cells slots ls Z hF hG hX hS hl kk => ?_) k
  exact lv_dup hF.1 hF.2.1 hd ((a_v_cat ad v).trans hc) (kk ls hl)
theorem ev_pop {v : Value} (hc : v.category = 1) (hd : decode M.2.1 pc = .ok (.pop, 1)) (k : Ev l d M (pc + 1) (L, S, σ) Q) : Ev l d M pc (L, v :: S, σ) Q := by
  refine Ev.pure (fun p e R s m args below meth c ad A H locs cells slots ls Z hF hG hX hS hl kk => ?_) k
  exact lv_pop hF.1 hF.2.1 hd ((a_v_cat ad v).trans hc) (kk ls hl)
theorem ev_pop2 {v : Value} (hc : v.category = 2) (hd : decode M.2.1 pc = .ok (.pop2, 1)) (k : Ev l d M (pc + 1) (L, S, σ) Q) : Ev l d M pc (L, v :: S, σ) Q := by
  refine Ev.pure (fun p e R s m args below meth c ad A H locs cells slots ls Z hF hG hX hS hl kk => ?_) k
  exact lv_pop2_2 hF.1 hF.2.1 hd ((a_v_cat ad v).trans hc) (kk ls hl)
theorem ev_dup_x1 {v u : Value} (hc : v.category = 1) (hu : u.category = 1) (hd : decode M.2.1 pc = .ok (.dup_x1, 1)) (k : Ev l d M (pc + 1) (L, v :: u :: v :: S, σ) Q) : Ev l d M pc (L, v :: u :: S, σ) Q := by
  refine Ev.pure (fun p e R s m args below meth c ad A H locs cells slots ls Z hF hG hX hS hl kk => ?_) k
  exact lv_dup_x1 hF.1 hF.2.1 hd ((a_v_cat ad v).trans hc) ((a_v_cat ad u).trans hu) (kk ls hl)
theorem ev_dup2 {v u : Value} (hc : v.category = 1) (hu : u.category = 1) (hd : decode M.2.1 pc = .ok (.dup2, 1)) (k : Ev l d M (pc + 1) (L, v :: u :: v :: u :: S, σ) Q) : Ev l d M pc (L, v :: u :: S, σ) Q := by
  refine Ev.pure (fun p e R s m args below meth c ad A H locs cells slots ls Z hF hG hX hS hl kk => ?_) k
  exact lv_dup2_11 hF.1 hF.2.1 hd ((a_v_cat ad v).trans hc) ((a_v_cat ad u).trans hu) (kk ls hl)
theorem ev_goto {off : Int} {tgt : Nat} (hd : decode M.2.1 pc = .ok (.goto off, 3)) (ht : (pc : Int) + off = (tgt : Int)) (k : Ev l d M tgt (L, S, σ) Q) : Ev l d M pc (L, S, σ) Q := by
  refine Ev.pure (fun p e R s m args below meth c ad A H locs cells slots ls Z hF hG hX hS hl kk => ?_) k
  exact lv_goto hF.1 hF.2.1 hd ht (kk ls hl)
/-- a branch: both ways -/
theorem Ev.br {l : Launch} {d : Nat} {M : AMt} {pc p1 p2 : Nat} {L S S' : List Value} {σ : ASt} {Q : Option Value → ASt → Prop} {C : Prop}
    (h : ∀ (p : Program) (e : Env) (R : Room) (s : State) (m : MethodId) (args : Array Value) (below : List Frame) (meth : Method) (c : Code) (ad : Nat → Nat) (H : Heap) (locs : List Loc) (cells slots : Nat) (ls : Array Slot) (Z : State → Prop), a_Fix M p s m args meth c →
      (C → W p l e R s m args below meth c H locs cells slots Z (F0 m p1 ls (S'.map (a_v ad)))) → (¬ C → W p l e R s m args below meth c H locs cells slots Z (F0 m p2 ls (S'.map (a_v ad)))) → W p l e R s m args below meth c H locs cells slots Z (F0 m pc ls (S.map (a_v ad))))
    (k1 : C → Ev l d M p1 (L, S', σ) Q) (k2 : ¬ C → Ev l d M p2 (L, S', σ) Q) : Ev l d M pc (L, S, σ) Q := by
  intro p e R s m args below meth c D ad ac A H locs cells slots ls Z hF hG hX hW h1 h2 h3 h4 hl hret
  exact h p e R s m args below meth c ad H locs cells slots ls Z hF (fun hc => k1 hc p e R s m args below meth c D ad ac A H locs cells slots ls Z hF hG hX hW h1 h2 h3 h4 hl hret) (fun hc => k2 hc p e R s m args below meth c D ad ac A H locs cells slots ls Z hF hG hX hW h1 h2 h3 h4 hl hret)
theorem ev_if_eq {x : Int32} {off : Int} {tgt : Nat} (hd : decode M.2.1 pc = .ok (.ifCond .eq off, 3)) (ht : (pc : Int) + off = (tgt : Int)) (k1 : x = 0 → Ev l d M tgt (L, S, σ) Q) (k2 : ¬ x = 0 → Ev l d M (pc + 3) (L, S, σ) Q) : Ev l d M pc (L, .int x :: S, σ) Q :=
  Ev.br (C := x = 0) (fun p e R s m args below meth c ad H locs cells slots ls Z hF kt kf => lv_if_eq hF.1 hF.2.1 hd ht kt kf) k1 k2
theorem ev_icmp_eq {x y : Int32} {off : Int} {tgt : Nat} (hd : decode M.2.1 pc = .ok (.if_icmp .eq off, 3)) (ht : (pc : Int) + off = (tgt : Int)) (k1 : x = y → Ev l d M tgt (L, S, σ) Q) (k2 : ¬ x = y → Ev l d M (pc + 3) (L, S, σ) Q) : Ev l d M pc (L, .int y :: .int x :: S, σ) Q :=
  Ev.br (C := x = y) (fun p e R s m args below meth c ad H locs cells slots ls Z hF kt kf => lv_icmp_eq hF.1 hF.2.1 hd ht kt kf) k1 k2
theorem ev_if_ne {x : Int32} {off : Int} {tgt : Nat} (hd : decode M.2.1 pc = .ok (.ifCond .ne off, 3)) (ht : (pc : Int) + off = (tgt : Int)) (k1 : ¬ x = 0 → Ev l d M tgt (L, S, σ) Q) (k2 : x = 0 → Ev l d M (pc + 3) (L, S, σ) Q) : Ev l d M pc (L, .int x :: S, σ) Q :=
  Ev.br (C := ¬ x = 0) (fun p e R s m args below meth c ad H locs cells slots ls Z hF kt kf => lv_if_ne hF.1 hF.2.1 hd ht kt (fun h => kf (fun hn => hn h))) k1 (fun hc => k2 (Decidable.of_not_not hc))
theorem ev_icmp_ne {x y : Int32} {off : Int} {tgt : Nat} (hd : decode M.2.1 pc = .ok (.if_icmp .ne off, 3)) (ht : (pc : Int) + off = (tgt : Int)) (k1 : ¬ x = y → Ev l d M tgt (L, S, σ) Q) (k2 : x = y → Ev l d M (pc + 3) (L, S, σ) Q) : Ev l d M pc (L, .int y :: .int x :: S, σ) Q :=
  Ev.br (C := ¬ x = y) (fun p e R s m args below meth c ad H locs cells slots ls Z hF kt kf => lv_icmp_ne hF.1 hF.2.1 hd ht kt (fun h => kf (fun hn => hn h))) k1 (fun hc => k2 (Decidable.of_not_not hc))
theorem ev_if_lt {x : Int32} {off : Int} {tgt : Nat} (hd : decode M.2.1 pc = .ok (.ifCond .lt off, 3)) (ht : (pc : Int) + off = (tgt : Int)) (k1 : x < 0 → Ev l d M tgt (L, S, σ) Q) (k2 : ¬ x < 0 → Ev l d M (pc + 3) (L, S, σ) Q) : Ev l d M pc (L, .int x :: S, σ) Q :=
  Ev.br (C := x < 0) (fun p e R s m args below meth c ad H locs cells slots ls Z hF kt kf => lv_if_lt hF.1 hF.2.1 hd ht kt kf) k1 k2
theorem ev_icmp_lt {x y : Int32} {off : Int} {tgt : Nat} (hd : decode M.2.1 pc = .ok (.if_icmp .lt off, 3)) (ht : (pc : Int) + off = (tgt : Int)) (k1 : x < y → Ev l d M tgt (L, S, σ) Q) (k2 : ¬ x < y → Ev l d M (pc + 3) (L, S, σ) Q) : Ev l d M pc (L, .int y :: .int x :: S, σ) Q :=
  Ev.br (C := x < y) (fun p e R s m args below meth c ad H locs cells slots ls Z hF kt kf => lv_icmp_lt hF.1 hF.2.1 hd ht kt kf) k1 k2
theorem ev_if_ge {x : Int32} {off : Int} {tgt : Nat} (hd : decode M.2.1 pc = .ok (.ifCond .ge off, 3)) (ht : (pc : Int) + off = (tgt : Int)) (k1 : 0 ≤ x → Ev l d M tgt (L, S, σ) Q) (k2 : ¬ 0 ≤ x → Ev l d M (pc + 3) (L, S, σ) Q) : Ev l d M pc (L, .int x :: S, σ) Q :=
  Ev.br (C := 0 ≤ x) (fun p e R s m args below meth c ad H locs cells slots ls Z hF kt kf => lv_if_ge hF.1 hF.2.1 hd ht kt kf) k1 k2
theorem ev_icmp_ge {x y : Int32} {off : Int} {tgt : Nat} (hd : decode M.2.1 pc = .ok (.if_icmp .ge off, 3)) (ht : (pc : Int) + off = (tgt : Int)) (k1 : y ≤ x → Ev l d M tgt (L, S, σ) Q) (k2 : ¬ y ≤ x → Ev l d M (pc + 3) (L, S, σ) Q) : Ev l d M pc (L, .int y :: .int x :: S, σ) Q :=
  Ev.br (C := y ≤ x) (fun p e R s m args below meth c ad H locs cells slots ls Z hF kt kf => lv_icmp_ge hF.1 hF.2.1 hd ht kt kf) k1 k2
theorem ev_if_gt {x : Int32} {off : Int} {tgt : Nat} (hd : decode M.2.1 pc = .ok (.ifCond .gt off, 3)) (ht : (pc : Int) + off = (tgt : Int)) (k1 : 0 < x → Ev l d M tgt (L, S, σ) Q) (k2 : ¬ 0 < x → Ev l d M (pc + 3) (L, S, σ) Q) : Ev l d M pc (L, .int x :: S, σ) Q :=
  Ev.br (C := 0 < x) (fun p e R s m args below meth c ad H locs cells slots ls Z hF kt kf => lv_if_gt hF.1 hF.2.1 hd ht kt kf) k1 k2
theorem ev_icmp_gt {x y : Int32} {off : Int} {tgt : Nat} (hd : decode M.2.1 pc = .ok (.if_icmp .gt off, 3)) (ht : (pc : Int) + off = (tgt : Int)) (k1 : y < x → Ev l d M tgt (L, S, σ) Q) (k2 : ¬ y < x → Ev l d M (pc + 3) (L, S, σ) Q) : Ev l d M pc (L, .int y :: .int x :: S, σ) Q :=
  Ev.br (C := y < x) (fun p e R s m args below meth c ad H locs cells slots ls Z hF kt kf => lv_icmp_gt hF.1 hF.2.1 hd ht kt kf) k1 k2
theorem ev_if_le {x : Int32} {off : Int} {tgt : Nat} (hd : decode M.2.1 pc = .ok (.ifCond .le off, 3)) (ht : (pc : Int) + off = (tgt : Int)) (k1 : x ≤ 0 → Ev l d M tgt (L, S, σ) Q) (k2 : ¬ x ≤ 0 → Ev l d M (pc + 3) (L, S, σ) Q) : Ev l d M pc (L, .int x :: S, σ) Q :=
  Ev.br (C := x ≤ 0) (fun p e R s m args below meth c ad H locs cells slots ls Z hF kt kf => lv_if_le hF.1 hF.2.1 hd ht kt kf) k1 k2
theorem ev_icmp_le {x y : Int32} {off : Int} {tgt : Nat} (hd : decode M.2.1 pc = .ok (.if_icmp .le off, 3)) (ht : (pc : Int) + off = (tgt : Int)) (k1 : x ≤ y → Ev l d M tgt (L, S, σ) Q) (k2 : ¬ x ≤ y → Ev l d M (pc + 3) (L, S, σ) Q) : Ev l d M pc (L, .int y :: .int x :: S, σ) Q :=
  Ev.br (C := x ≤ y) (fun p e R s m args below meth c ad H locs cells slots ls Z hF kt kf => lv_icmp_le hF.1 hF.2.1 hd ht kt kf) k1 k2
theorem ev_tableIn {dflt lo hi : Int} {offs : Array Int} {len : Nat} {x : Int32} {off : Int} {tgt : Nat} (hd : decode M.2.1 pc = .ok (.tableswitch dflt lo hi offs, len)) (h1 : ¬ x.toInt < lo) (h2 : ¬ hi < x.toInt) (ho : offs[(x.toInt - lo).toNat]? = some off) (ht : (pc : Int) + off = (tgt : Int)) (k : Ev l d M tgt (L, S, σ) Q) : Ev l d M pc (L, .int x :: S, σ) Q := by
  refine Ev.pure (fun p e R s m args below meth c ad A H locs cells slots ls Z hF hG hX hS hl kk => ?_) k
  exact lv_tableIn hF.1 hF.2.1 hd h1 h2 ho ht (kk ls hl)
theorem ev_tableOut {dflt lo hi : Int} {offs : Array Int} {len : Nat} {x : Int32} {tgt : Nat} (hd : decode M.2.1 pc = .ok (.tableswitch dflt lo hi offs, len)) (h : x.toInt < lo ∨ hi < x.toInt) (ht : (pc : Int) + dflt = (tgt : Int)) (k : Ev l d M tgt (L, S, σ) Q) : Ev l d M pc (L, .int x :: S, σ) Q := by
  refine Ev.pure (fun p e R s m args below meth c ad A H locs cells slots ls Z hF hG hX hS hl kk => ?_) k
  exact lv_tableOut hF.1 hF.2.1 hd h ht (kk ls hl)
theorem ev_lookup {dflt : Int} {ps : Array (Int × Int)} {len : Nat} {x : Int32} {off : Int} {tgt : Nat} (hd : decode M.2.1 pc = .ok (.lookupswitch dflt ps, len)) (hp : (ps.toList.zip (ps.toList.drop 1)).all (fun (a, next) => a.1 < next.1) = true) (ho : Op.lookupswitch.offset ps.toList dflt x.toInt = off) (ht : (pc : Int) + off = (tgt : Int)) (k : Ev l d M tgt (L, S, σ) Q) : Ev l d M pc (L, .int x :: S, σ) Q := by
  refine Ev.pure (fun p e R s m args below meth c ad A H locs cells slots ls Z hF hG hX hS hl kk => ?_) k
  exact lv_lookup hF.1 hF.2.1 hd hp ho ht (kk ls hl)
end EVP
