/-! ===== lines: what both read, as functions ===== -/
def aB (a : Ln) : Ln := (a.1 + 1, a.2)
def aR (a : Ln) : Ln := (a.1, a.2.1 + 1, a.2.2)
def aN (a : Ln) : Ln := (a.1, a.2.1, a.2.2.1 + 1, a.2.2.2)
def setM (a : Ln) (b v : Nat) : Ln := (a.1, a.2.1, a.2.2.1, fun i => if i = b then v else a.2.2.2.1 i, a.2.2.2.2)
def setD (a : Ln) (b v : Nat) : Ln := (a.1, a.2.1, a.2.2.1, a.2.2.2.1, fun i => if i = b then v else a.2.2.2.2.1 i, a.2.2.2.2.2)
def setNm (a : Ln) (r v : Nat) : Ln := (a.1, a.2.1, a.2.2.1, a.2.2.2.1, a.2.2.2.2.1, fun i => if i = r then v else a.2.2.2.2.2.1 i, a.2.2.2.2.2.2)
def setBs (a : Ln) (r v : Nat) : Ln := (a.1, a.2.1, a.2.2.1, a.2.2.2.1, a.2.2.2.2.1, a.2.2.2.2.2.1, fun i => if i = r then v else a.2.2.2.2.2.2.1 i, a.2.2.2.2.2.2.2)
def setL (a : Ln) (f : FF) : Ln := (a.1, a.2.1, a.2.2.1, a.2.2.2.1, a.2.2.2.2.1, a.2.2.2.2.2.1, a.2.2.2.2.2.2.1, f, a.2.2.2.2.2.2.2.2)
def setT (a : Ln) (f : FF) : Ln := (a.1, a.2.1, a.2.2.1, a.2.2.2.1, a.2.2.2.2.1, a.2.2.2.2.2.1, a.2.2.2.2.2.2.1, a.2.2.2.2.2.2.2.1, f)
def fOne : FF := fun _ => 1
def aZ : Ln := (0, 0, 0, fun _ => 0, fun _ => 0, fun _ => 0, fun _ => 0, fOne, fOne)
def dZ : Dt := (fun _ => none, fun _ => 0, fun _ => 0, fun _ _ => 0)
def okz (a : Ln) (d : Dt) : Prop := okLn a ∧ okD a d ∧ (∀ b, nB a ≤ b → nM a b = 0 ∧ nD a b = 0) ∧ (∀ r, nR a ≤ r → nNm a r = 0) ∧ ∀ b r, dG d b r = 0
theorem okz_Z : okz aZ dZ := ⟨⟨by decide, by decide, fun b hb => absurd hb (Nat.not_lt_zero _), fun r hr => absurd hr (Nat.not_lt_zero _)⟩, ⟨fun b r h => (by cases h), fun b => ⟨Nat.zero_le _, fun _ => rfl⟩, fun r => ⟨Nat.zero_le _, fun _ => rfl⟩, fun b r => Nat.zero_le _, fun r hr => absurd hr (Nat.not_lt_zero _)⟩, fun b _ => ⟨rfl, rfl⟩, fun r _ => rfl, fun b r => rfl⟩
theorem okz_W0 {a : Ln} {d : Dt} (h : okz a d) {b : Nat} (hb : nB a ≤ b) : dW d b = none := by
  cases e : dW d b with
  | none => rfl
  | some r => have := (h.2.1.1 b r e).1; omega
theorem okz_B {a : Ln} {d : Dt} (h : okz a d) (h6 : nB a < 6) {v : Nat} (hv : v ≤ 9) : okz (aB a) (setF d (nB a) v) := by
  obtain ⟨⟨l1, l2, l3, l4⟩, ⟨d1, d2, d3, d4, d5⟩, z1, z2, z3⟩ := id h
  have eB : nB (aB a) = nB a + 1 := rfl
  refine ⟨⟨by rw [eB]; omega, l2, fun b hb => ?_, l4⟩, ⟨fun b r e => ?_, fun b => ?_, d3, d4, fun r hr => ?_⟩, fun b hb => z1 b (by rw [eB] at hb; omega), z2, z3⟩
  · rw [eB] at hb
    by_cases q : b < nB a
    · exact l3 b q
    · obtain ⟨y1, y2⟩ := z1 b (by omega)
      show nM a b ≤ 9 ∧ nD a b ≤ 10
      rw [y1, y2]; decide
  · have := d1 b r e
    rw [eB]
    exact ⟨by omega, this.2⟩
  · rw [eB]
    show (if b = nB a then v else dF d b) ≤ 9 ∧ (nB a + 1 ≤ b → (if b = nB a then v else dF d b) = 0)
    by_cases q : b = nB a
    · rw [if_pos q]; exact ⟨hv, fun k => by omega⟩
    · rw [if_neg q]; exact ⟨(d2 b).1, fun k => (d2 b).2 (by omega)⟩
  · rw [eB]
    show cnt (inn (dW d) r) (nB a + 1) ≤ dR d r
    have e : inn (dW d) r (nB a) = false := by unfold inn; rw [okz_W0 h (Nat.le_refl _)]; rfl
    simp only [cnt]
    rw [if_neg (by rw [e]; decide)]
    exact d5 r hr
theorem okz_M {a : Ln} {d : Dt} (h : okz a d) {b v : Nat} (hb : b < nB a) (hv : v ≤ 9) : okz (setM a b v) d := by
  obtain ⟨⟨l1, l2, l3, l4⟩, dd, z1, z2, z3⟩ := h
  refine ⟨⟨l1, l2, fun i hi => ?_, l4⟩, dd, fun i hi => ?_, z2, z3⟩
  · show (if i = b then v else nM a i) ≤ 9 ∧ nD a i ≤ 10
    refine ⟨?_, (l3 i hi).2⟩
    split
    · exact hv
    · exact (l3 i hi).1
  · have hi : nB a ≤ i := hi
    show (if i = b then v else nM a i) = 0 ∧ nD a i = 0
    rw [if_neg (by omega)]
    exact z1 i hi
theorem okz_D {a : Ln} {d : Dt} (h : okz a d) {b v : Nat} (hb : b < nB a) (hv : v ≤ 10) : okz (setD a b v) d := by
  obtain ⟨⟨l1, l2, l3, l4⟩, dd, z1, z2, z3⟩ := h
  refine ⟨⟨l1, l2, fun i hi => ?_, l4⟩, dd, fun i hi => ?_, z2, z3⟩
  · show nM a i ≤ 9 ∧ (if i = b then v else nD a i) ≤ 10
    refine ⟨(l3 i hi).1, ?_⟩
    split
    · exact hv
    · exact (l3 i hi).2
  · have hi : nB a ≤ i := hi
    show nM a i = 0 ∧ (if i = b then v else nD a i) = 0
    rw [if_neg (by omega)]
    exact z1 i hi
theorem okz_Nm {a : Ln} {d : Dt} (h : okz a d) {r v : Nat} (hr : r < nR a) (hv : v ≤ 9) : okz (setNm a r v) d := by
  obtain ⟨⟨l1, l2, l3, l4⟩, dd, z1, z2, z3⟩ := h
  refine ⟨⟨l1, l2, l3, fun i hi => ?_⟩, dd, z1, fun i hi => ?_, z3⟩
  · show (if i = r then v else nNm a i) ≤ 9 ∧ nBs a i ≤ 99
    refine ⟨?_, (l4 i hi).2⟩
    split
    · exact hv
    · exact (l4 i hi).1
  · have hi : nR a ≤ i := hi
    show (if i = r then v else nNm a i) = 0
    rw [if_neg (by omega)]
    exact z2 i hi
theorem okz_Bs {a : Ln} {d : Dt} (h : okz a d) {r v : Nat} (hv : v ≤ 99) : okz (setBs a r v) d := by
  obtain ⟨⟨l1, l2, l3, l4⟩, dd, z1, z2, z3⟩ := h
  refine ⟨⟨l1, l2, l3, fun i hi => ?_⟩, dd, z1, z2, z3⟩
  show nNm a i ≤ 9 ∧ (if i = r then v else nBs a i) ≤ 99
  refine ⟨(l4 i hi).1, ?_⟩
  split
  · exact hv
  · exact (l4 i hi).2
theorem okz_R {a : Ln} {d : Dt} (h : okz a d) (h4 : nR a < 4) {v : Nat} (hv : v ≤ 6) : okz (setBs (aR a) (nR a) 99) (setR d (nR a) v) := by
  obtain ⟨⟨l1, l2, l3, l4⟩, ⟨d1, d2, d3, d4, d5⟩, z1, z2, z3⟩ := id h
  have eR : nR (setBs (aR a) (nR a) 99) = nR a + 1 := rfl
  refine ⟨⟨l1, by rw [eR]; omega, l3, fun r hr => ?_⟩, ⟨fun b r e => ?_, d2, fun r => ?_, d4, fun r hr => ?_⟩, z1, fun r hr => z2 r (by rw [eR] at hr; omega), z3⟩
  · rw [eR] at hr
    show nNm a r ≤ 9 ∧ (if r = nR a then 99 else nBs a r) ≤ 99
    by_cases q : r = nR a
    · rw [if_pos q, q, z2 _ (Nat.le_refl _)]; decide
    · rw [if_neg q]; exact l4 r (by omega)
  · have := d1 b r e
    rw [eR]
    exact ⟨this.1, by omega⟩
  · rw [eR]
    show (if r = nR a then v else dR d r) ≤ 6 ∧ (nR a + 1 ≤ r → (if r = nR a then v else dR d r) = 0)
    by_cases q : r = nR a
    · rw [if_pos q]; exact ⟨hv, fun k => by omega⟩
    · rw [if_neg q]; exact ⟨(d3 r).1, fun k => (d3 r).2 (by omega)⟩
  · rw [eR] at hr
    show cnt (inn (dW d) r) (nB a) ≤ (if r = nR a then v else dR d r)
    by_cases q : r = nR a
    · rw [cnt_z (fun b _ => ?_)]
      · exact Nat.zero_le _
      · unfold inn
        cases e : dW d b with
        | none => rfl
        | some x =>
          have := (d1 b x e).2
          simp; omega
    · rw [if_neg q]; exact d5 r (by omega)
theorem okz_Wn {a : Ln} {d : Dt} (h : okz a d) (b : Nat) : okz a (setW d b none) := by
  obtain ⟨l, ⟨d1, d2, d3, d4, d5⟩, z1, z2, z3⟩ := h
  refine ⟨l, ⟨fun i r e => ?_, d2, d3, d4, fun r hr => Nat.le_trans (cnt_mono (fun x _ e => inn_no e)) (d5 r hr)⟩, z1, z2, z3⟩
  have e : (if i = b then none else dW d i) = some r := e
  by_cases q : i = b
  · rw [if_pos q] at e; cases e
  · rw [if_neg q] at e; exact d1 i r e
theorem okz_Ws {a : Ln} {d : Dt} (h : okz a d) {b r : Nat} (hb : b < nB a) (hr : r < nR a) (hc : cnt (inn (dW (setW d b none)) r) (nB a) < dR d r) : okz a (setW d b (some r)) := by
  obtain ⟨l, ⟨d1, d2, d3, d4, d5⟩, z1, z2, z3⟩ := h
  refine ⟨l, ⟨fun i x e => ?_, d2, d3, d4, fun x hx => ?_⟩, z1, z2, z3⟩
  · have e : (if i = b then some r else dW d i) = some x := e
    by_cases q : i = b
    · rw [if_pos q] at e
      cases e
      exact ⟨by omega, hr⟩
    · rw [if_neg q] at e; exact d1 i x e
  · by_cases q : x = r
    · rw [q]
      have e : dW (setW d b (some r)) = fun i => if i = b then some r else (dW (setW d b none)) i := funext (fun i => by
        show (if i = b then some r else dW d i) = (if i = b then some r else (if i = b then none else dW d i))
        by_cases q : i = b
        · rw [if_pos q, if_pos q]
        · rw [if_neg q, if_neg q, if_neg q])
      rw [e, cnt_add hb (by show ¬ (if b = b then none else dW d b) = some r; rw [if_pos rfl]; exact fun k => by cases k)]
      exact hc
    · exact Nat.le_trans (cnt_mono (fun y _ e => inn_set q e)) (d5 x hx)
theorem okz_L {a : Ln} {d : Dt} (h : okz a d) (f : FF) : okz (setL a f) d := h
theorem okz_T {a : Ln} {d : Dt} (h : okz a d) (f : FF) : okz (setT a f) d := h
theorem okz_N {a : Ln} {d : Dt} (h : okz a d) : okz (aN a) d := h
noncomputable def pTo (tp : Nat → Nat) (n b : Nat) (s : PS) (a : Ln) (d : Dt) : PS × Dt := if zSees 21 s then (if zV s < nR a ∧ cnt (inn (dW (setW d b none)) (zV s)) (nB a) < dR d (zV s) then (zAdv tp n s, setW d b (some (zV s))) else (zRf 3 s, setW d b none)) else (zRf 2 s, setW d b none)
noncomputable def pFl (tp : Nat → Nat) (n b : Nat) : Nat → PS → Ln → Dt → PS × Ln × Dt
  | 0, s, a, d => (s, a, d)
  | f + 1, s, a, d =>
    if zSees 3 s then pFl tp n b f (zNum tp n 10 (zAdv tp n s)).1 (setM a b (zNum tp n 10 (zAdv tp n s)).2) d
    else if zSees 7 s then pFl tp n b f (zNum tp n 11 (zAdv tp n s)).1 (setD a b (zNum tp n 11 (zAdv tp n s)).2) d
    else if zSees 8 s then pFl tp n b f (pTo tp n b (zAdv tp n s) a d).1 a (pTo tp n b (zAdv tp n s) a d).2
    else (s, a, d)
noncomputable def pPt (tp : Nat → Nat) (n r : Nat) : Nat → PS → Ln → PS × Ln
  | 0, s, a => (s, a)
  | f + 1, s, a =>
    if zSees 5 s then pPt tp n r f (zNum tp n 10 (zAdv tp n s)).1 (setNm a r (zNum tp n 10 (zAdv tp n s)).2)
    else if zSees 10 s then pPt tp n r f (zNum tp n 100 (zAdv tp n s)).1 (setBs a r (zNum tp n 100 (zAdv tp n s)).2)
    else (s, a)
noncomputable def pBk (tp : Nat → Nat) (n fu : Nat) (s : PS) (a : Ln) (d : Dt) : PS × Ln × Dt :=
  if nB a = 6 then (zRf 4 s, a, d) else
  pFl tp n (nB a) fu (zNum tp n 10 (zXp tp n 2 (zAdv tp n s))).1 (aB a) (setF d (nB a) (zNum tp n 10 (zXp tp n 2 (zAdv tp n s))).2)
noncomputable def pRv (tp : Nat → Nat) (n fu : Nat) (s : PS) (a : Ln) (d : Dt) : PS × Ln × Dt :=
  if nR a = 4 then (zRf 4 s, a, d) else
  let q := zNum tp n 7 (zXp tp n 9 (zAdv tp n s))
  let t := pPt tp n (nR a) fu q.1 (setBs (aR a) (nR a) 99)
  (t.1, t.2, setR d (nR a) q.2)
noncomputable def pLw (tp : Nat → Nat) (n fu : Nat) (s : PS) : PS × FF := pz tp n fu 0 0 (zXp tp n 58 (zAdv tp n s)) fOne
noncomputable def pLi (tp : Nat → Nat) (n fu : Nat) (s : PS) (a : Ln) (d : Dt) : PS × Ln × Dt :=
  if zK s = 1 then pBk tp n fu s a d
  else if zK s = 4 then pRv tp n fu s a d
  else if zK s = 11 then ((pLw tp n fu s).1, setL a (pLw tp n fu s).2, d)
  else if zK s = 12 then ((pLw tp n fu s).1, setT a (pLw tp n fu s).2, d)
  else (zRf 2 s, a, d)
noncomputable def pLs (tp : Nat → Nat) (n fu : Nat) : Nat → PS → Ln → Dt → PS × Ln × Dt
  | 0, s, a, d => (s, a, d)
  | f + 1, s, a, d => if zF s = 0 ∧ ¬ zK s = 22 then pLs tp n fu f (zXp tp n 59 (pLi tp n fu s a d).1) (aN (pLi tp n fu s a d).2.1) (pLi tp n fu s a d).2.2 else (s, a, d)
noncomputable def pAl (tp : Nat → Nat) (n fu : Nat) : PS × Ln × Dt := pLs tp n fu fu (zXp tp n 59 (zXp tp n 0 (zTok tp n 0 0))) (aN aZ) dZ
/-! ===== what the class has drafted ===== -/
def DK (mi : TMi) (a : Ln) (q : Nat) : Prop := ∃ c, mi 3 11 = nI c ∧ c ≤ q ∧ c ≤ 900 ∧ (∀ j, j < c → ∃ v : Nat, mi 11 j = nI v ∧ v < 14000) ∧ CLn (mi 11) (mi 3 12) c (nL a) ∧ CLn (mi 11) (mi 3 13) c (nT a)
def DC (mi : TMi) (a : Ln) (d : Dt) (q : Nat) : Prop := mi 3 0 = nI (nB a) ∧ mi 3 1 = nI (nR a) ∧ mi 3 2 = nI (nN a) ∧ (∀ b, b < nB a → mi 4 b = nI (dF d b) ∧ mi 5 b = nI (nM a b) ∧ mi 6 b = nI (nD a b) ∧ mi 7 b = oI (dW d b)) ∧ (∀ r, r < nR a → mi 8 r = nI (dR d r) ∧ mi 9 r = nI (nNm a r) ∧ mi 10 r = nI (nBs a r)) ∧ DK mi a q
theorem DC.fr {mi mi' : TMi} {a : Ln} {d : Dt} {q : Nat} (h : DC mi a d q) (F : Fr [12] mi mi') : DC mi' a d q := by
  unfold DC DK at h ⊢
  rw [F 3 (by decide), F 4 (by decide), F 5 (by decide), F 6 (by decide), F 7 (by decide), F 8 (by decide), F 9 (by decide), F 10 (by decide), F 11 (by decide)]
  exact h
theorem DC.mono {mi : TMi} {a : Ln} {d : Dt} {q q' : Nat} (h : DC mi a d q) (hq : q ≤ q') : DC mi a d q' := by
  obtain ⟨h1, h2, h3, h4, h5, c, k1, k2, k3⟩ := h
  exact ⟨h1, h2, h3, h4, h5, c, k1, by omega, k3⟩
abbrev DN : List Nat := [3, 4, 5, 6, 7, 8, 9, 10, 11, 12]
theorem FrD {mi mi' : TMi} (F : Fr [12] mi mi') : Fr DN mi mi' := F.weak (by simp)
theorem FrU (mi : TMi) {k : Nat} (hk : k ∈ DN) (j : Nat) (x : Int32) : Fr DN mi (up mi k j x) := (Fr_up mi k j x).weak (by simpa using hk)
theorem CLn.grow {g g' : Nat → Int32} {x : Int32} {n n' : Nat} {f : FF} (h : CLn g x n f) (hg : ∀ j, j < n → g' j = g j) (hn : n ≤ n') (hn' : n' ≤ 900) (hv : ∀ j, j < n' → ∃ v : Nat, g' j = nI v ∧ v < 14000) : CLn g' x n' f := by
  rcases h with h | ⟨s, e, dp, c, h1, h2, h3, h4, h5, h6, h7⟩
  · exact Or.inl h
  · refine Or.inr ⟨s, e, dp, fun j => if j < n then c j else (g' j).toNatClampNeg, h1, by omega, hn', h4, fun j hj => ?_, ?_, fun c' hc' => h7 c' (fun j hj => by rw [hc' j (by omega)]; exact if_pos hj)⟩
    · dsimp only
      by_cases q : j < n
      · rw [if_pos q, hg j q]; exact h5 j q
      · obtain ⟨v, v1, v2⟩ := hv j hj
        rw [if_neg q, v1, cl_nI (by omega)]
        exact ⟨rfl, v2⟩
    · dsimp only; rw [if_pos h2]; exact h6
theorem CS.cln {g : Nat → Int32} {s e dp : Nat} {f : FF} (h : CS g s e dp f) (he : e < 900) (hd : dp ≤ 64) (hg : g e = nI 4000) (hv : ∀ j, j < e + 1 → ∃ v : Nat, g j = nI v ∧ v < 14000) : CLn g (nI s) (e + 1) f := by
  have hc : ∀ j, j < e + 1 → g j = nI (g j).toNatClampNeg ∧ (g j).toNatClampNeg < 14000 := fun j hj => by
    obtain ⟨v, v1, v2⟩ := hv j hj
    rw [v1, cl_nI (by omega)]
    exact ⟨rfl, v2⟩
  refine Or.inr ⟨s, e, dp, fun j => (g j).toNatClampNeg, rfl, by omega, by omega, hd, hc, by dsimp only; rw [hg, cl_nI (by decide)], fun c' hc' => ⟨h.1, h.2.1, fun W hW stk hs => h.2.2.2 c' (fun j _ hj => ?_) W hW stk hs⟩⟩
  rw [hc' j (by omega)]
  exact hc j (by omega)
