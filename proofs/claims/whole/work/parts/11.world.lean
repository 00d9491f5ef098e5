/-! ===== the world of both objects, once they are made: shapes, references; z: the scene that the survey looks at ===== -/
def SH : List ASh := [.inr (7, 0), .inl 11, .inr (1, 900), .inl 0, .inr (0, 6), .inr (0, 6), .inr (0, 6), .inr (0, 6), .inr (0, 4), .inr (0, 4), .inr (0, 4), .inr (0, 900), .inl 8, .inl 4, .inl 1, .inr (0, 6), .inr (0, 64), .inl 5, .inl 0, .inr (0, 6), .inr (0, 6), .inr (0, 6), .inr (0, 6), .inr (0, 4), .inr (0, 4), .inr (0, 4), .inr (0, 900), .inr (0, 40), .inr (0, 24), .inr (0, 24), .inr (0, 24), .inr (0, 24), .inr (0, 6), .inl 5, .inr (0, 40), .inr (0, 24), .inr (0, 24), .inr (0, 24), .inr (0, 24), .inr (0, 6), .inr (4, 2), .inr (2, 2), .inl 3, .inr (6, 10), .inr (0, 40), .inr (0, 40), .inr (0, 40), .inr (0, 40), .inr (0, 40), .inr (0, 40), .inr (0, 40), .inr (0, 40), .inr (0, 40), .inr (0, 40), .inr (0, 40), .inl 2, .inr (0, 6), .inr (0, 4), .inr (0, 4), .inr (0, 6), .inl 7, .inr (0, 6), .inr (0, 6), .inr (0, 6), .inr (0, 6), .inr (0, 4), .inr (0, 6), .inr (0, 4), .inl 10, .inr (0, 60), .inr (0, 60), .inr (0, 60), .inr (0, 6), .inr (0, 7), .inr (0, 6), .inl 6, .inr (0, 6), .inr (0, 4), .inr (5, 4), .inl 5, .inl 0, .inr (0, 6), .inr (0, 6), .inr (0, 6), .inr (0, 6), .inr (0, 4), .inr (0, 4), .inr (0, 4), .inr (0, 900), .inr (0, 40), .inr (0, 24), .inr (0, 24), .inr (0, 24), .inr (0, 24), .inr (0, 6), .inl 5, .inl 0, .inr (0, 6), .inr (0, 6), .inr (0, 6), .inr (0, 6), .inr (0, 4), .inr (0, 4), .inr (0, 4), .inr (0, 900), .inr (0, 40), .inr (0, 24), .inr (0, 24), .inr (0, 24), .inr (0, 24), .inr (0, 6), .inl 9, .inr (3, 40), .inl 9, .inr (3, 40), .inl 9, .inr (3, 40), .inl 9, .inr (3, 40), .inl 12, .inr (0, 4113), .inr (2, 2), .inr (0, 900), .inr (0, 1371), .inr (0, 900), .inr (0, 6), .inr (0, 24), .inr (0, 24), .inr (0, 40), .inr (0, 6), .inr (0, 15625), .inr (0, 6), .inr (0, 4), .inr (0, 6), .inr (0, 4), .inr (0, 4), .inr (3, 160)]
def MRt (z : Nat) : List (List Nat) := [[], [2, 0, 3, 12, 13, 0, 0, 14, 17, 33, 40, 41, 42, 55, 60, 68, 75, 78, 0], [], [0, 0, 0, 4, 5, 6, 7, 8, 9, 10, 11, 0, 0, 0], [], [], [], [], [], [], [], [], [2, 0, 0, 0, 0, 0, 0, 0], [12, 3], [15, 16], [], [], [18, 14, 27, 28, 29, 30, 31, 32], [0, 0, 0, 19, 20, 21, 22, 23, 24, 25, 26, 0, 0, 0], [], [], [], [], [], [], [], [], [], [], [], [], [], [], [18, 14, 34, 35, 36, 37, 38, 39], [], [], [], [], [], [], [79, 95], [], [43, 54, 0, 0], [44, 45, 46, 47, 48, 49, 50, 51, 52, 53], [], [], [], [], [], [], [], [], [], [], [], [56, 57, 58, 59], [], [], [], [], [55, z, 61, 62, 63, 64, 65, 0, 0, 0, 0, 0, 66, 67], [], [], [], [], [], [], [], [33, 55, 0, 0, 69, 70, 71, 72, 73, 0, 74], [], [], [], [], [], [], [33, 55, 76, 0, 77, 0, 0], [], [], [111, 113, 115, 117], [80, 14, 89, 90, 91, 92, 93, 94], [0, 0, 0, 81, 82, 83, 84, 85, 86, 87, 88, 0, 0, 0], [], [], [], [], [], [], [], [], [], [], [], [], [], [], [96, 14, 105, 106, 107, 108, 109, 110], [0, 0, 0, 97, 98, 99, 100, 101, 102, 103, 104, 0, 0, 0], [], [], [], [], [], [], [], [], [], [], [], [], [], [], [112, 0, 0], [], [114, 0, 0], [], [116, 0, 0], [], [118, 0, 0], [], [0, 120, 121, 122, 123, 0, 0, 0, 0, 0, 0, 0, 0, 0, 0, 124, 125, 126, 127, 128, 0, 0, 0, 129, 130, 0, 131, 0, 132, 0, 0, 133, 134, 135, 136], [], [], [], [], [], [], [], [], [], [], [], [], [], [], [], [], []]
def MR (z : Nat) (a k : Nat) : Nat := ((MRt z).getD a []).getD k 0
abbrev TMi : Type := Nat → Nat → Int32
abbrev TMl : Type := Nat → Nat → Int64
def st (mi : TMi) (ml : TMl) (z : Nat) : ASt := (SH, mi, ml, MR z, 0, 0)
def qI (Q : Int32 → TMi → TMl → Nat → Prop) : Option Value → ASt → Prop := fun v σ => ∃ x mi ml z, v = some (.int x) ∧ σ = st mi ml z ∧ Q x mi ml z
def qV (Q : TMi → TMl → Nat → Prop) : Option Value → ASt → Prop := fun v σ => ∃ mi ml z, v = none ∧ σ = st mi ml z ∧ Q mi ml z
def qL (Q : Int64 → TMi → TMl → Nat → Prop) : Option Value → ASt → Prop := fun v σ => ∃ x mi ml z, v = some (.long x) ∧ σ = st mi ml z ∧ Q x mi ml z
/-- a call's answer -/
def CI (l : Launch) (h : Nat) (M : AMt) (vs : List Value) (mi : TMi) (ml : TMl) (z : Nat) (Q : Int32 → TMi → TMl → Nat → Prop) : Prop := Ev l h M 0 (a_ent M.2.2.1 vs, [], st mi ml z) (qI Q)
def CV (l : Launch) (h : Nat) (M : AMt) (vs : List Value) (mi : TMi) (ml : TMl) (z : Nat) (Q : TMi → TMl → Nat → Prop) : Prop := Ev l h M 0 (a_ent M.2.2.1 vs, [], st mi ml z) (qV Q)
def CLg (l : Launch) (h : Nat) (M : AMt) (vs : List Value) (mi : TMi) (ml : TMl) (z : Nat) (Q : Int64 → TMi → TMl → Nat → Prop) : Prop := Ev l h M 0 (a_ent M.2.2.1 vs, [], st mi ml z) (qL Q)
theorem CI.mono {l : Launch} {h : Nat} {M : AMt} {vs : List Value} {mi : TMi} {ml : TMl} {z : Nat} {Q Q' : Int32 → TMi → TMl → Nat → Prop} (hq : ∀ x mi ml z, Q x mi ml z → Q' x mi ml z) (k : CI l h M vs mi ml z Q) : CI l h M vs mi ml z Q' :=
  Ev.mono (fun _ _ ⟨x, mi, ml, z, e1, e2, q⟩ => ⟨x, mi, ml, z, e1, e2, hq x mi ml z q⟩) k
theorem CV.mono {l : Launch} {h : Nat} {M : AMt} {vs : List Value} {mi : TMi} {ml : TMl} {z : Nat} {Q Q' : TMi → TMl → Nat → Prop} (hq : ∀ mi ml z, Q mi ml z → Q' mi ml z) (k : CV l h M vs mi ml z Q) : CV l h M vs mi ml z Q' :=
  Ev.mono (fun _ _ ⟨mi, ml, z, e1, e2, q⟩ => ⟨mi, ml, z, e1, e2, hq mi ml z q⟩) k
theorem CLg.mono {l : Launch} {h : Nat} {M : AMt} {vs : List Value} {mi : TMi} {ml : TMl} {z : Nat} {Q Q' : Int64 → TMi → TMl → Nat → Prop} (hq : ∀ x mi ml z, Q x mi ml z → Q' x mi ml z) (k : CLg l h M vs mi ml z Q) : CLg l h M vs mi ml z Q' :=
  Ev.mono (fun _ _ ⟨x, mi, ml, z, e1, e2, q⟩ => ⟨x, mi, ml, z, e1, e2, hq x mi ml z q⟩) k
/-- locals that are not needed any more -/
def a_sub : List Value → List Value → Prop
  | [], _ => True
  | .retAddr _ :: t, _ :: u => a_sub t u
  | v :: t, w :: u => v = w ∧ a_sub t u
  | _ :: _, [] => False
theorem a_sub_at : ∀ (L' L : List Value) (i : Nat) (v : Value), a_sub L' L → L'[i]? = some v → (∀ x, v ≠ .retAddr x) → L[i]? = some v
  | [], _, i, v, _, h, _ => by simp at h
  | u :: t, [], i, v, h, _, _ => by cases u <;> exact h.elim
  | u :: t, w :: s, 0, v, h, h1, h2 => by
    simp at h1
    subst h1
    cases u <;> first | exact absurd rfl (h2 _) | (simp only [a_sub] at h; simp [h.1])
  | u :: t, w :: s, i + 1, v, h, h1, h2 => by
    have h3 : a_sub t s := by cases u <;> first | exact h | exact h.2
    have := a_sub_at t s i v h3 (by simpa using h1) h2
    simpa using this
theorem Ev.drop {l : Launch} {d : Nat} {M : AMt} {pc : Nat} {L L' S : List Value} {σ : ASt} {Q : Option Value → ASt → Prop} (hs : a_sub L' L) (k : Ev l d M pc (L', S, σ) Q) : Ev l d M pc (L, S, σ) Q := by
  refine Ev.pure (fun p e R s m args below meth c ad A H locs cells slots ls Z hF hG hX hS hl kk => kk ls ?_) k
  refine ⟨hl.1, hl.2.1, fun q hq => ?_⟩
  obtain ⟨i, v, h1, h2, rfl⟩ := a_loc_of _ _ _ hq
  exact hl.2.2 _ (a_loc_mem L 0 i v (a_sub_at L' L i v hs h1 h2) h2)
/-- all rows of a method, decoded at once -/
def a_dec (code : ByteArray) (rows : List (Nat × Instr × Nat)) : Bool := rows.all fun q => decide (decode code q.1 = .ok (q.2.1, q.2.2))
theorem a_dec_at {code : ByteArray} {rows : List (Nat × Instr × Nat)} (h : a_dec code rows = true) (k : Nat) {pc : Nat} {i : Instr} {n : Nat} (hk : rows[k]? = some (pc, i, n)) : decode code pc = .ok (i, n) := by
  have := List.all_eq_true.mp h _ (List.mem_of_getElem? hk)
  simpa using this
theorem a_mem {w : Cond} (k : Nat) (h : lw_tbl[k]? = some w) (hg : goodWord w = true) : w ∈ a_tbl := List.mem_filter.mpr ⟨List.mem_of_getElem? h, hg⟩
section EVW
variable {l : Launch} {d : Nat} {M Mj : AMt} {pc : Nat} {L S : List Value} {mi : TMi} {ml : TMl} {z : Nat} {Q : Option Value → ASt → Prop}
theorem m_getI {n ci k idx : Nat} (hf : a_FL M.1.cls idx ci k) (hr : a_rf ci k = false) (ho : SH[n]? = some (.inl ci)) (hd : decode M.2.1 pc = .ok (.getfield idx, 3)) (kk : Ev l d M (pc + 3) (L, .int (mi n k) :: S, st mi ml z) Q) : Ev l d M pc (L, .ref n :: S, st mi ml z) Q := ev_getI hf hr ho hd kk
theorem m_getR {n ci k idx y : Nat} (hf : a_FL M.1.cls idx ci k) (hr : a_rf ci k = true) (ho : SH[n]? = some (.inl ci)) (hy : MR z n k = y) (hz : 0 < y ∧ y < 1000) (hd : decode M.2.1 pc = .ok (.getfield idx, 3)) (kk : Ev l d M (pc + 3) (L, .ref y :: S, st mi ml z) Q) : Ev l d M pc (L, .ref n :: S, st mi ml z) Q := by
  subst hy
  exact ev_getR hf hr ho hz hd kk
theorem m_putI {n ci k idx : Nat} {x : Int32} (hf : a_FL M.1.cls idx ci k) (hr : a_rf ci k = false) (hfin : ∀ C T N, vwCl[ci]? = some (C, T, N) → (T k).2.2.2 = false ∨ (M.1.name = "<init>" ∧ (T k).1 = M.1.cls)) (ho : SH[n]? = some (.inl ci)) (hd : decode M.2.1 pc = .ok (.putfield idx, 3)) (kk : Ev l d M (pc + 3) (L, S, st (up mi n k x) ml z) Q) : Ev l d M pc (L, .int x :: .ref n :: S, st mi ml z) Q := ev_putI hf hr hfin ho hd kk
theorem m_iald {n len : Nat} {i : Int32} (ho : SH[n]? = some (.inr (0, len))) (hi : vp_in i len) (hd : decode M.2.1 pc = .ok (.iaload, 1)) (kk : Ev l d M (pc + 1) (L, .int (mi n i.toNatClampNeg) :: S, st mi ml z) Q) : Ev l d M pc (L, .int i :: .ref n :: S, st mi ml z) Q := ev_iald ⟨len, ho, hi⟩ hd kk
theorem m_bald {n len : Nat} {i : Int32} (ho : SH[n]? = some (.inr (1, len))) (hi : vp_in i len) (hd : decode M.2.1 pc = .ok (.baload, 1)) (kk : Ev l d M (pc + 1) (L, .int (mi n i.toNatClampNeg) :: S, st mi ml z) Q) : Ev l d M pc (L, .int i :: .ref n :: S, st mi ml z) Q := ev_bald ⟨len, ho, hi⟩ hd kk
theorem m_zald {n len : Nat} {i : Int32} (ho : SH[n]? = some (.inr (2, len))) (hi : vp_in i len) (hd : decode M.2.1 pc = .ok (.baload, 1)) (kk : Ev l d M (pc + 1) (L, .int (mi n i.toNatClampNeg) :: S, st mi ml z) Q) : Ev l d M pc (L, .int i :: .ref n :: S, st mi ml z) Q := ev_zald ⟨len, ho, hi⟩ hd kk
theorem m_lald {n len : Nat} {i : Int32} (ho : SH[n]? = some (.inr (3, len))) (hi : vp_in i len) (hd : decode M.2.1 pc = .ok (.laload, 1)) (kk : Ev l d M (pc + 1) (L, .long (ml n i.toNatClampNeg) :: S, st mi ml z) Q) : Ev l d M pc (L, .int i :: .ref n :: S, st mi ml z) Q := ev_lald ⟨len, ho, hi⟩ hd kk
theorem m_aald {n kd len : Nat} {i : Int32} (hkd : 4 ≤ kd ∧ kd ≤ 6) (ho : SH[n]? = some (.inr (kd, len))) (hi : vp_in i len) (hz : 0 < MR z n i.toNatClampNeg ∧ MR z n i.toNatClampNeg < 1000) (hd : decode M.2.1 pc = .ok (.aaload, 1)) (kk : Ev l d M (pc + 1) (L, .ref (MR z n i.toNatClampNeg) :: S, st mi ml z) Q) : Ev l d M pc (L, .int i :: .ref n :: S, st mi ml z) Q := ev_aald hkd ⟨len, ho, hi⟩ hz hd kk
theorem m_alen {n kd len : Nat} (hkd : kd ≠ 7) (ho : SH[n]? = some (.inr (kd, len))) (hd : decode M.2.1 pc = .ok (.arraylength, 1)) (kk : Ev l d M (pc + 1) (L, .int (nI len) :: S, st mi ml z) Q) : Ev l d M pc (L, .ref n :: S, st mi ml z) Q := ev_alen hkd ho hd kk
theorem m_iast {n len : Nat} {i x : Int32} (ho : SH[n]? = some (.inr (0, len))) (hi : vp_in i len) (hd : decode M.2.1 pc = .ok (.iastore, 1)) (kk : Ev l d M (pc + 1) (L, S, st (up mi n i.toNatClampNeg x) ml z) Q) : Ev l d M pc (L, .int x :: .int i :: .ref n :: S, st mi ml z) Q := ev_iast ⟨len, ho, hi⟩ hd kk
theorem m_bast {n len : Nat} {i x : Int32} (ho : SH[n]? = some (.inr (1, len))) (hi : vp_in i len) (hd : decode M.2.1 pc = .ok (.bastore, 1)) (kk : Ev l d M (pc + 1) (L, S, st (up mi n i.toNatClampNeg (vp_nar .byte x)) ml z) Q) : Ev l d M pc (L, .int x :: .int i :: .ref n :: S, st mi ml z) Q := ev_bast ⟨len, ho, hi⟩ hd kk
theorem m_zast {n len : Nat} {i x : Int32} (ho : SH[n]? = some (.inr (2, len))) (hi : vp_in i len) (hd : decode M.2.1 pc = .ok (.bastore, 1)) (kk : Ev l d M (pc + 1) (L, S, st (up mi n i.toNatClampNeg (vp_nar .boolean x)) ml z) Q) : Ev l d M pc (L, .int x :: .int i :: .ref n :: S, st mi ml z) Q := ev_zast ⟨len, ho, hi⟩ hd kk
theorem m_last {n len : Nat} {i : Int32} {x : Int64} (ho : SH[n]? = some (.inr (3, len))) (hi : vp_in i len) (hd : decode M.2.1 pc = .ok (.lastore, 1)) (kk : Ev l d M (pc + 1) (L, S, st mi (upL ml n i.toNatClampNeg x) z) Q) : Ev l d M pc (L, .long x :: .int i :: .ref n :: S, st mi ml z) Q := ev_last ⟨len, ho, hi⟩ hd kk
theorem m_copy {n0 n1 l0 l1 idx : Nat} {sp dp n : Int32} (hw : Cond.methodLink M.1.cls idx arraycopyName ∈ a_tbl) (ha0 : SH[n0]? = some (.inr (0, l0))) (ha1 : SH[n1]? = some (.inr (0, l1))) (hc : ¬ sp < 0 ∧ ¬ dp < 0 ∧ ¬ n < 0 ∧ sp.toNatClampNeg + n.toNatClampNeg ≤ l0 ∧ dp.toNatClampNeg + n.toNatClampNeg ≤ l1) (hrs : (S.map fun v => v.category).sum ≤ 8) (hd : decode M.2.1 pc = .ok (.invokestatic idx, 3))
    (kk : Ev l (d + 1) M (pc + 3) (L, S, st (upF mi n1 (va_cpy (mi n0) (mi n1) sp.toNatClampNeg dp.toNatClampNeg n.toNatClampNeg)) ml z) Q) : Ev l (d + 1) M pc (L, .int n :: .int dp :: .ref n1 :: .int sp :: .ref n0 :: S, st mi ml z) Q := ev_copy hw ha0 ha1 hc.1 hc.2.1 hc.2.2.1 hc.2.2.2.1 hc.2.2.2.2 hrs (Nat.succ_pos _) hd kk
theorem m_retI {x : Int32} {Q : Int32 → TMi → TMl → Nat → Prop} (hd : decode M.2.1 pc = .ok (.ireturn, 1)) {ty : FieldType} (hr : M.2.2.2.1 = some ty) (hn : narrow ty (.int x) = .int x) (hq : Q x mi ml z) : Ev l d M pc (L, [.int x], st mi ml z) (qI Q) := Ev.retI hd hr hn ⟨x, mi, ml, z, rfl, rfl, hq⟩
theorem m_retV {Q : TMi → TMl → Nat → Prop} (hd : decode M.2.1 pc = .ok (.return_, 1)) (hr : M.2.2.2.1 = none) (hq : Q mi ml z) : Ev l d M pc (L, [], st mi ml z) (qV Q) := Ev.retV hd hr ⟨mi, ml, z, rfl, rfl, hq⟩
theorem m_retL {x : Int64} {Q : Int64 → TMi → TMl → Nat → Prop} (hd : decode M.2.1 pc = .ok (.lreturn, 1)) (hr : M.2.2.2.1 = some .long) (hq : Q x mi ml z) : Ev l d M pc (L, [.long x], st mi ml z) (qL Q) := Ev.retL hd hr ⟨x, mi, ml, z, rfl, rfl, hq⟩
/-- sites of calls -/
def a_SV (own : String) (idx : Nat) (Mj : AMt) (n ci : Nat) : Prop := a_Cal Mj n ∧ Cond.methodLink own idx Mj.1 ∈ a_tbl ∧ Cond.instanceMethod Mj.1 ∈ a_tbl ∧ Cond.selects Mj.1.cls Mj.1 Mj.1 ∈ a_tbl ∧ ∃ T N, vwCl[ci]? = some (Mj.1.cls, T, N)
def a_SS (own : String) (idx : Nat) (Mj : AMt) (n : Nat) : Prop := a_Cal Mj n ∧ Cond.methodLink own idx Mj.1 ∈ a_tbl ∧ Cond.static Mj.1 ∈ a_tbl
def a_SN (own : String) (idx : Nat) (Mj : AMt) (n : Nat) : Prop := a_Cal Mj n ∧ Cond.methodLinkNest own idx Mj.1 "BeckChoice" ∈ a_nst ∧ Cond.static Mj.1 ∈ a_tbl
def a_ST (own : String) (idx : Nat) (Mj : AMt) (n : Nat) : Prop := a_Cal Mj n ∧ Mj.1.cls = "java/lang/String" ∧ Cond.methodLink own idx Mj.1 ∈ a_tbl ∧ Cond.instanceMethod Mj.1 ∈ a_tbl ∧ Cond.selects Mj.1.cls Mj.1 Mj.1 ∈ a_tbl
theorem cV0I {x0 ci idx : Nat} (hs : a_SV M.1.cls idx Mj 0 ci) (hx : SH[x0]? = some (.inl ci)) (hvs : (Value.ref x0 :: []).all a_okArg = true) (hvl : (a_flat (Value.ref x0 :: [])).length ≤ Mj.2.2.1) (hrs : (S.map fun v => v.category).sum ≤ 8) (hd : decode M.2.1 pc = .ok (.invokevirtual idx, 3)) (k : CI l d Mj (Value.ref x0 :: []) mi ml z (fun x mi ml z => Ev l (d + 1) M (pc + 3) (L, .int x :: S, st mi ml z) Q)) : Ev l (d + 1) M pc (L, .ref x0 :: S, st mi ml z) Q := by
  obtain ⟨h1, h2, h3, h4, T, N, h5⟩ := hs
  exact Ev.callV (As := []) (b1 := 0) (s1 := 0) h1 h2 h3 h4 h5 hx rfl hvs hvl hrs (Nat.zero_le _) (Nat.zero_le _) (Or.inl rfl) hd k (fun v σ ⟨x1, mi1, ml1, z1, e1, e2, q⟩ => by subst e1; subst e2; exact q)
theorem cS0I {idx : Nat} (hs : a_SS M.1.cls idx Mj 0) (hvs : ([] : List Value).all a_okArg = true) (hvl : (a_flat []).length ≤ Mj.2.2.1) (hrs : (S.map fun v => v.category).sum ≤ 8) (hd : decode M.2.1 pc = .ok (.invokestatic idx, 3)) (k : CI l d Mj [] mi ml z (fun x mi ml z => Ev l (d + 1) M (pc + 3) (L, .int x :: S, st mi ml z) Q)) : Ev l (d + 1) M pc (L, S, st mi ml z) Q :=
  Ev.callS (As := []) hs.1 hs.2.1 hs.2.2 rfl hvs hvl hrs hd k (fun v σ ⟨x1, mi1, ml1, z1, e1, e2, q⟩ => by subst e1; subst e2; exact q)
theorem cN0I {idx : Nat} (hs : a_SN M.1.cls idx Mj 0) (hvs : ([] : List Value).all a_okArg = true) (hvl : (a_flat []).length ≤ Mj.2.2.1) (hrs : (S.map fun v => v.category).sum ≤ 8) (hd : decode M.2.1 pc = .ok (.invokestatic idx, 3)) (k : CI l d Mj [] mi ml z (fun x mi ml z => Ev l (d + 1) M (pc + 3) (L, .int x :: S, st mi ml z) Q)) : Ev l (d + 1) M pc (L, S, st mi ml z) Q :=
  Ev.callSN (As := []) hs.1 hs.2.1 hs.2.2 rfl hvs hvl hrs hd k (fun v σ ⟨x1, mi1, ml1, z1, e1, e2, q⟩ => by subst e1; subst e2; exact q)
theorem cT0I {x0 idx : Nat} (hs : a_ST M.1.cls idx Mj 0) (hx : x0 < 3) (hvs : (Value.ref (1000000 + x0) :: []).all a_okArg = true) (hvl : (a_flat (Value.ref (1000000 + x0) :: [])).length ≤ Mj.2.2.1) (hrs : (S.map fun v => v.category).sum ≤ 8) (hd : decode M.2.1 pc = .ok (.invokevirtual idx, 3)) (k : CI l d Mj (Value.ref (1000000 + x0) :: []) mi ml z (fun x mi ml z => Ev l (d + 1) M (pc + 3) (L, .int x :: S, st mi ml z) Q)) : Ev l (d + 1) M pc (L, .ref (1000000 + x0) :: S, st mi ml z) Q :=
  Ev.callVS (As := []) hs.1 hs.2.1 hs.2.2.1 hs.2.2.2.1 hs.2.2.2.2 hx rfl hvs hvl hrs hd k (fun v σ ⟨x1, mi1, ml1, z1, e1, e2, q⟩ => by subst e1; subst e2; exact q)
theorem cV0V {x0 ci idx : Nat} (hs : a_SV M.1.cls idx Mj 0 ci) (hx : SH[x0]? = some (.inl ci)) (hvs : (Value.ref x0 :: []).all a_okArg = true) (hvl : (a_flat (Value.ref x0 :: [])).length ≤ Mj.2.2.1) (hrs : (S.map fun v => v.category).sum ≤ 8) (hd : decode M.2.1 pc = .ok (.invokevirtual idx, 3)) (k : CV l d Mj (Value.ref x0 :: []) mi ml z (fun mi ml z => Ev l (d + 1) M (pc + 3) (L, S, st mi ml z) Q)) : Ev l (d + 1) M pc (L, .ref x0 :: S, st mi ml z) Q := by
  obtain ⟨h1, h2, h3, h4, T, N, h5⟩ := hs
  exact Ev.callV (As := []) (b1 := 0) (s1 := 0) h1 h2 h3 h4 h5 hx rfl hvs hvl hrs (Nat.zero_le _) (Nat.zero_le _) (Or.inl rfl) hd k (fun v σ ⟨mi1, ml1, z1, e1, e2, q⟩ => by subst e1; subst e2; exact q)
theorem cS0V {idx : Nat} (hs : a_SS M.1.cls idx Mj 0) (hvs : ([] : List Value).all a_okArg = true) (hvl : (a_flat []).length ≤ Mj.2.2.1) (hrs : (S.map fun v => v.category).sum ≤ 8) (hd : decode M.2.1 pc = .ok (.invokestatic idx, 3)) (k : CV l d Mj [] mi ml z (fun mi ml z => Ev l (d + 1) M (pc + 3) (L, S, st mi ml z) Q)) : Ev l (d + 1) M pc (L, S, st mi ml z) Q :=
  Ev.callS (As := []) hs.1 hs.2.1 hs.2.2 rfl hvs hvl hrs hd k (fun v σ ⟨mi1, ml1, z1, e1, e2, q⟩ => by subst e1; subst e2; exact q)
theorem cN0V {idx : Nat} (hs : a_SN M.1.cls idx Mj 0) (hvs : ([] : List Value).all a_okArg = true) (hvl : (a_flat []).length ≤ Mj.2.2.1) (hrs : (S.map fun v => v.category).sum ≤ 8) (hd : decode M.2.1 pc = .ok (.invokestatic idx, 3)) (k : CV l d Mj [] mi ml z (fun mi ml z => Ev l (d + 1) M (pc + 3) (L, S, st mi ml z) Q)) : Ev l (d + 1) M pc (L, S, st mi ml z) Q :=
  Ev.callSN (As := []) hs.1 hs.2.1 hs.2.2 rfl hvs hvl hrs hd k (fun v σ ⟨mi1, ml1, z1, e1, e2, q⟩ => by subst e1; subst e2; exact q)
theorem cV0L {x0 ci idx : Nat} (hs : a_SV M.1.cls idx Mj 0 ci) (hx : SH[x0]? = some (.inl ci)) (hvs : (Value.ref x0 :: []).all a_okArg = true) (hvl : (a_flat (Value.ref x0 :: [])).length ≤ Mj.2.2.1) (hrs : (S.map fun v => v.category).sum ≤ 8) (hd : decode M.2.1 pc = .ok (.invokevirtual idx, 3)) (k : CLg l d Mj (Value.ref x0 :: []) mi ml z (fun x mi ml z => Ev l (d + 1) M (pc + 3) (L, .long x :: S, st mi ml z) Q)) : Ev l (d + 1) M pc (L, .ref x0 :: S, st mi ml z) Q := by
  obtain ⟨h1, h2, h3, h4, T, N, h5⟩ := hs
  exact Ev.callV (As := []) (b1 := 0) (s1 := 0) h1 h2 h3 h4 h5 hx rfl hvs hvl hrs (Nat.zero_le _) (Nat.zero_le _) (Or.inl rfl) hd k (fun v σ ⟨x1, mi1, ml1, z1, e1, e2, q⟩ => by subst e1; subst e2; exact q)
theorem cS0L {idx : Nat} (hs : a_SS M.1.cls idx Mj 0) (hvs : ([] : List Value).all a_okArg = true) (hvl : (a_flat []).length ≤ Mj.2.2.1) (hrs : (S.map fun v => v.category).sum ≤ 8) (hd : decode M.2.1 pc = .ok (.invokestatic idx, 3)) (k : CLg l d Mj [] mi ml z (fun x mi ml z => Ev l (d + 1) M (pc + 3) (L, .long x :: S, st mi ml z) Q)) : Ev l (d + 1) M pc (L, S, st mi ml z) Q :=
  Ev.callS (As := []) hs.1 hs.2.1 hs.2.2 rfl hvs hvl hrs hd k (fun v σ ⟨x1, mi1, ml1, z1, e1, e2, q⟩ => by subst e1; subst e2; exact q)
theorem cN0L {idx : Nat} (hs : a_SN M.1.cls idx Mj 0) (hvs : ([] : List Value).all a_okArg = true) (hvl : (a_flat []).length ≤ Mj.2.2.1) (hrs : (S.map fun v => v.category).sum ≤ 8) (hd : decode M.2.1 pc = .ok (.invokestatic idx, 3)) (k : CLg l d Mj [] mi ml z (fun x mi ml z => Ev l (d + 1) M (pc + 3) (L, .long x :: S, st mi ml z) Q)) : Ev l (d + 1) M pc (L, S, st mi ml z) Q :=
  Ev.callSN (As := []) hs.1 hs.2.1 hs.2.2 rfl hvs hvl hrs hd k (fun v σ ⟨x1, mi1, ml1, z1, e1, e2, q⟩ => by subst e1; subst e2; exact q)
theorem cV1I {x0 ci idx : Nat} {v1 : Value} (hs : a_SV M.1.cls idx Mj 1 ci) (hx : SH[x0]? = some (.inl ci)) (hvs : (Value.ref x0 :: [v1]).all a_okArg = true) (hvl : (a_flat (Value.ref x0 :: [v1])).length ≤ Mj.2.2.1) (hrs : (S.map fun v => v.category).sum ≤ 8) (hd : decode M.2.1 pc = .ok (.invokevirtual idx, 3)) (k : CI l d Mj (Value.ref x0 :: [v1]) mi ml z (fun x mi ml z => Ev l (d + 1) M (pc + 3) (L, .int x :: S, st mi ml z) Q)) : Ev l (d + 1) M pc (L, v1 :: .ref x0 :: S, st mi ml z) Q := by
  obtain ⟨h1, h2, h3, h4, T, N, h5⟩ := hs
  exact Ev.callV (As := [v1]) (b1 := 0) (s1 := 0) h1 h2 h3 h4 h5 hx rfl hvs hvl hrs (Nat.zero_le _) (Nat.zero_le _) (Or.inl rfl) hd k (fun v σ ⟨x1, mi1, ml1, z1, e1, e2, q⟩ => by subst e1; subst e2; exact q)
theorem cS1I {idx : Nat} {v1 : Value} (hs : a_SS M.1.cls idx Mj 1) (hvs : ([v1] : List Value).all a_okArg = true) (hvl : (a_flat [v1]).length ≤ Mj.2.2.1) (hrs : (S.map fun v => v.category).sum ≤ 8) (hd : decode M.2.1 pc = .ok (.invokestatic idx, 3)) (k : CI l d Mj [v1] mi ml z (fun x mi ml z => Ev l (d + 1) M (pc + 3) (L, .int x :: S, st mi ml z) Q)) : Ev l (d + 1) M pc (L, v1 :: S, st mi ml z) Q :=
  Ev.callS (As := [v1]) hs.1 hs.2.1 hs.2.2 rfl hvs hvl hrs hd k (fun v σ ⟨x1, mi1, ml1, z1, e1, e2, q⟩ => by subst e1; subst e2; exact q)
theorem cN1I {idx : Nat} {v1 : Value} (hs : a_SN M.1.cls idx Mj 1) (hvs : ([v1] : List Value).all a_okArg = true) (hvl : (a_flat [v1]).length ≤ Mj.2.2.1) (hrs : (S.map fun v => v.category).sum ≤ 8) (hd : decode M.2.1 pc = .ok (.invokestatic idx, 3)) (k : CI l d Mj [v1] mi ml z (fun x mi ml z => Ev l (d + 1) M (pc + 3) (L, .int x :: S, st mi ml z) Q)) : Ev l (d + 1) M pc (L, v1 :: S, st mi ml z) Q :=
  Ev.callSN (As := [v1]) hs.1 hs.2.1 hs.2.2 rfl hvs hvl hrs hd k (fun v σ ⟨x1, mi1, ml1, z1, e1, e2, q⟩ => by subst e1; subst e2; exact q)
theorem cT1I {x0 idx : Nat} {v1 : Value} (hs : a_ST M.1.cls idx Mj 1) (hx : x0 < 3) (hvs : (Value.ref (1000000 + x0) :: [v1]).all a_okArg = true) (hvl : (a_flat (Value.ref (1000000 + x0) :: [v1])).length ≤ Mj.2.2.1) (hrs : (S.map fun v => v.category).sum ≤ 8) (hd : decode M.2.1 pc = .ok (.invokevirtual idx, 3)) (k : CI l d Mj (Value.ref (1000000 + x0) :: [v1]) mi ml z (fun x mi ml z => Ev l (d + 1) M (pc + 3) (L, .int x :: S, st mi ml z) Q)) : Ev l (d + 1) M pc (L, v1 :: .ref (1000000 + x0) :: S, st mi ml z) Q :=
  Ev.callVS (As := [v1]) hs.1 hs.2.1 hs.2.2.1 hs.2.2.2.1 hs.2.2.2.2 hx rfl hvs hvl hrs hd k (fun v σ ⟨x1, mi1, ml1, z1, e1, e2, q⟩ => by subst e1; subst e2; exact q)
theorem cV1V {x0 ci idx : Nat} {v1 : Value} (hs : a_SV M.1.cls idx Mj 1 ci) (hx : SH[x0]? = some (.inl ci)) (hvs : (Value.ref x0 :: [v1]).all a_okArg = true) (hvl : (a_flat (Value.ref x0 :: [v1])).length ≤ Mj.2.2.1) (hrs : (S.map fun v => v.category).sum ≤ 8) (hd : decode M.2.1 pc = .ok (.invokevirtual idx, 3)) (k : CV l d Mj (Value.ref x0 :: [v1]) mi ml z (fun mi ml z => Ev l (d + 1) M (pc + 3) (L, S, st mi ml z) Q)) : Ev l (d + 1) M pc (L, v1 :: .ref x0 :: S, st mi ml z) Q := by
  obtain ⟨h1, h2, h3, h4, T, N, h5⟩ := hs
  exact Ev.callV (As := [v1]) (b1 := 0) (s1 := 0) h1 h2 h3 h4 h5 hx rfl hvs hvl hrs (Nat.zero_le _) (Nat.zero_le _) (Or.inl rfl) hd k (fun v σ ⟨mi1, ml1, z1, e1, e2, q⟩ => by subst e1; subst e2; exact q)
theorem cS1V {idx : Nat} {v1 : Value} (hs : a_SS M.1.cls idx Mj 1) (hvs : ([v1] : List Value).all a_okArg = true) (hvl : (a_flat [v1]).length ≤ Mj.2.2.1) (hrs : (S.map fun v => v.category).sum ≤ 8) (hd : decode M.2.1 pc = .ok (.invokestatic idx, 3)) (k : CV l d Mj [v1] mi ml z (fun mi ml z => Ev l (d + 1) M (pc + 3) (L, S, st mi ml z) Q)) : Ev l (d + 1) M pc (L, v1 :: S, st mi ml z) Q :=
  Ev.callS (As := [v1]) hs.1 hs.2.1 hs.2.2 rfl hvs hvl hrs hd k (fun v σ ⟨mi1, ml1, z1, e1, e2, q⟩ => by subst e1; subst e2; exact q)
theorem cN1V {idx : Nat} {v1 : Value} (hs : a_SN M.1.cls idx Mj 1) (hvs : ([v1] : List Value).all a_okArg = true) (hvl : (a_flat [v1]).length ≤ Mj.2.2.1) (hrs : (S.map fun v => v.category).sum ≤ 8) (hd : decode M.2.1 pc = .ok (.invokestatic idx, 3)) (k : CV l d Mj [v1] mi ml z (fun mi ml z => Ev l (d + 1) M (pc + 3) (L, S, st mi ml z) Q)) : Ev l (d + 1) M pc (L, v1 :: S, st mi ml z) Q :=
  Ev.callSN (As := [v1]) hs.1 hs.2.1 hs.2.2 rfl hvs hvl hrs hd k (fun v σ ⟨mi1, ml1, z1, e1, e2, q⟩ => by subst e1; subst e2; exact q)
theorem cV1L {x0 ci idx : Nat} {v1 : Value} (hs : a_SV M.1.cls idx Mj 1 ci) (hx : SH[x0]? = some (.inl ci)) (hvs : (Value.ref x0 :: [v1]).all a_okArg = true) (hvl : (a_flat (Value.ref x0 :: [v1])).length ≤ Mj.2.2.1) (hrs : (S.map fun v => v.category).sum ≤ 8) (hd : decode M.2.1 pc = .ok (.invokevirtual idx, 3)) (k : CLg l d Mj (Value.ref x0 :: [v1]) mi ml z (fun x mi ml z => Ev l (d + 1) M (pc + 3) (L, .long x :: S, st mi ml z) Q)) : Ev l (d + 1) M pc (L, v1 :: .ref x0 :: S, st mi ml z) Q := by
  obtain ⟨h1, h2, h3, h4, T, N, h5⟩ := hs
  exact Ev.callV (As := [v1]) (b1 := 0) (s1 := 0) h1 h2 h3 h4 h5 hx rfl hvs hvl hrs (Nat.zero_le _) (Nat.zero_le _) (Or.inl rfl) hd k (fun v σ ⟨x1, mi1, ml1, z1, e1, e2, q⟩ => by subst e1; subst e2; exact q)
theorem cS1L {idx : Nat} {v1 : Value} (hs : a_SS M.1.cls idx Mj 1) (hvs : ([v1] : List Value).all a_okArg = true) (hvl : (a_flat [v1]).length ≤ Mj.2.2.1) (hrs : (S.map fun v => v.category).sum ≤ 8) (hd : decode M.2.1 pc = .ok (.invokestatic idx, 3)) (k : CLg l d Mj [v1] mi ml z (fun x mi ml z => Ev l (d + 1) M (pc + 3) (L, .long x :: S, st mi ml z) Q)) : Ev l (d + 1) M pc (L, v1 :: S, st mi ml z) Q :=
  Ev.callS (As := [v1]) hs.1 hs.2.1 hs.2.2 rfl hvs hvl hrs hd k (fun v σ ⟨x1, mi1, ml1, z1, e1, e2, q⟩ => by subst e1; subst e2; exact q)
theorem cN1L {idx : Nat} {v1 : Value} (hs : a_SN M.1.cls idx Mj 1) (hvs : ([v1] : List Value).all a_okArg = true) (hvl : (a_flat [v1]).length ≤ Mj.2.2.1) (hrs : (S.map fun v => v.category).sum ≤ 8) (hd : decode M.2.1 pc = .ok (.invokestatic idx, 3)) (k : CLg l d Mj [v1] mi ml z (fun x mi ml z => Ev l (d + 1) M (pc + 3) (L, .long x :: S, st mi ml z) Q)) : Ev l (d + 1) M pc (L, v1 :: S, st mi ml z) Q :=
  Ev.callSN (As := [v1]) hs.1 hs.2.1 hs.2.2 rfl hvs hvl hrs hd k (fun v σ ⟨x1, mi1, ml1, z1, e1, e2, q⟩ => by subst e1; subst e2; exact q)
theorem cV2I {x0 ci idx : Nat} {v1 v2 : Value} (hs : a_SV M.1.cls idx Mj 2 ci) (hx : SH[x0]? = some (.inl ci)) (hvs : (Value.ref x0 :: [v1, v2]).all a_okArg = true) (hvl : (a_flat (Value.ref x0 :: [v1, v2])).length ≤ Mj.2.2.1) (hrs : (S.map fun v => v.category).sum ≤ 8) (hd : decode M.2.1 pc = .ok (.invokevirtual idx, 3)) (k : CI l d Mj (Value.ref x0 :: [v1, v2]) mi ml z (fun x mi ml z => Ev l (d + 1) M (pc + 3) (L, .int x :: S, st mi ml z) Q)) : Ev l (d + 1) M pc (L, v2 :: v1 :: .ref x0 :: S, st mi ml z) Q := by
  obtain ⟨h1, h2, h3, h4, T, N, h5⟩ := hs
  exact Ev.callV (As := [v1, v2]) (b1 := 0) (s1 := 0) h1 h2 h3 h4 h5 hx rfl hvs hvl hrs (Nat.zero_le _) (Nat.zero_le _) (Or.inl rfl) hd k (fun v σ ⟨x1, mi1, ml1, z1, e1, e2, q⟩ => by subst e1; subst e2; exact q)
theorem cS2I {idx : Nat} {v1 v2 : Value} (hs : a_SS M.1.cls idx Mj 2) (hvs : ([v1, v2] : List Value).all a_okArg = true) (hvl : (a_flat [v1, v2]).length ≤ Mj.2.2.1) (hrs : (S.map fun v => v.category).sum ≤ 8) (hd : decode M.2.1 pc = .ok (.invokestatic idx, 3)) (k : CI l d Mj [v1, v2] mi ml z (fun x mi ml z => Ev l (d + 1) M (pc + 3) (L, .int x :: S, st mi ml z) Q)) : Ev l (d + 1) M pc (L, v2 :: v1 :: S, st mi ml z) Q :=
  Ev.callS (As := [v1, v2]) hs.1 hs.2.1 hs.2.2 rfl hvs hvl hrs hd k (fun v σ ⟨x1, mi1, ml1, z1, e1, e2, q⟩ => by subst e1; subst e2; exact q)
theorem cN2I {idx : Nat} {v1 v2 : Value} (hs : a_SN M.1.cls idx Mj 2) (hvs : ([v1, v2] : List Value).all a_okArg = true) (hvl : (a_flat [v1, v2]).length ≤ Mj.2.2.1) (hrs : (S.map fun v => v.category).sum ≤ 8) (hd : decode M.2.1 pc = .ok (.invokestatic idx, 3)) (k : CI l d Mj [v1, v2] mi ml z (fun x mi ml z => Ev l (d + 1) M (pc + 3) (L, .int x :: S, st mi ml z) Q)) : Ev l (d + 1) M pc (L, v2 :: v1 :: S, st mi ml z) Q :=
  Ev.callSN (As := [v1, v2]) hs.1 hs.2.1 hs.2.2 rfl hvs hvl hrs hd k (fun v σ ⟨x1, mi1, ml1, z1, e1, e2, q⟩ => by subst e1; subst e2; exact q)
theorem cT2I {x0 idx : Nat} {v1 v2 : Value} (hs : a_ST M.1.cls idx Mj 2) (hx : x0 < 3) (hvs : (Value.ref (1000000 + x0) :: [v1, v2]).all a_okArg = true) (hvl : (a_flat (Value.ref (1000000 + x0) :: [v1, v2])).length ≤ Mj.2.2.1) (hrs : (S.map fun v => v.category).sum ≤ 8) (hd : decode M.2.1 pc = .ok (.invokevirtual idx, 3)) (k : CI l d Mj (Value.ref (1000000 + x0) :: [v1, v2]) mi ml z (fun x mi ml z => Ev l (d + 1) M (pc + 3) (L, .int x :: S, st mi ml z) Q)) : Ev l (d + 1) M pc (L, v2 :: v1 :: .ref (1000000 + x0) :: S, st mi ml z) Q :=
  Ev.callVS (As := [v1, v2]) hs.1 hs.2.1 hs.2.2.1 hs.2.2.2.1 hs.2.2.2.2 hx rfl hvs hvl hrs hd k (fun v σ ⟨x1, mi1, ml1, z1, e1, e2, q⟩ => by subst e1; subst e2; exact q)
theorem cV2V {x0 ci idx : Nat} {v1 v2 : Value} (hs : a_SV M.1.cls idx Mj 2 ci) (hx : SH[x0]? = some (.inl ci)) (hvs : (Value.ref x0 :: [v1, v2]).all a_okArg = true) (hvl : (a_flat (Value.ref x0 :: [v1, v2])).length ≤ Mj.2.2.1) (hrs : (S.map fun v => v.category).sum ≤ 8) (hd : decode M.2.1 pc = .ok (.invokevirtual idx, 3)) (k : CV l d Mj (Value.ref x0 :: [v1, v2]) mi ml z (fun mi ml z => Ev l (d + 1) M (pc + 3) (L, S, st mi ml z) Q)) : Ev l (d + 1) M pc (L, v2 :: v1 :: .ref x0 :: S, st mi ml z) Q := by
  obtain ⟨h1, h2, h3, h4, T, N, h5⟩ := hs
  exact Ev.callV (As := [v1, v2]) (b1 := 0) (s1 := 0) h1 h2 h3 h4 h5 hx rfl hvs hvl hrs (Nat.zero_le _) (Nat.zero_le _) (Or.inl rfl) hd k (fun v σ ⟨mi1, ml1, z1, e1, e2, q⟩ => by subst e1; subst e2; exact q)
theorem cS2V {idx : Nat} {v1 v2 : Value} (hs : a_SS M.1.cls idx Mj 2) (hvs : ([v1, v2] : List Value).all a_okArg = true) (hvl : (a_flat [v1, v2]).length ≤ Mj.2.2.1) (hrs : (S.map fun v => v.category).sum ≤ 8) (hd : decode M.2.1 pc = .ok (.invokestatic idx, 3)) (k : CV l d Mj [v1, v2] mi ml z (fun mi ml z => Ev l (d + 1) M (pc + 3) (L, S, st mi ml z) Q)) : Ev l (d + 1) M pc (L, v2 :: v1 :: S, st mi ml z) Q :=
  Ev.callS (As := [v1, v2]) hs.1 hs.2.1 hs.2.2 rfl hvs hvl hrs hd k (fun v σ ⟨mi1, ml1, z1, e1, e2, q⟩ => by subst e1; subst e2; exact q)
theorem cN2V {idx : Nat} {v1 v2 : Value} (hs : a_SN M.1.cls idx Mj 2) (hvs : ([v1, v2] : List Value).all a_okArg = true) (hvl : (a_flat [v1, v2]).length ≤ Mj.2.2.1) (hrs : (S.map fun v => v.category).sum ≤ 8) (hd : decode M.2.1 pc = .ok (.invokestatic idx, 3)) (k : CV l d Mj [v1, v2] mi ml z (fun mi ml z => Ev l (d + 1) M (pc + 3) (L, S, st mi ml z) Q)) : Ev l (d + 1) M pc (L, v2 :: v1 :: S, st mi ml z) Q :=
  Ev.callSN (As := [v1, v2]) hs.1 hs.2.1 hs.2.2 rfl hvs hvl hrs hd k (fun v σ ⟨mi1, ml1, z1, e1, e2, q⟩ => by subst e1; subst e2; exact q)
theorem cV2L {x0 ci idx : Nat} {v1 v2 : Value} (hs : a_SV M.1.cls idx Mj 2 ci) (hx : SH[x0]? = some (.inl ci)) (hvs : (Value.ref x0 :: [v1, v2]).all a_okArg = true) (hvl : (a_flat (Value.ref x0 :: [v1, v2])).length ≤ Mj.2.2.1) (hrs : (S.map fun v => v.category).sum ≤ 8) (hd : decode M.2.1 pc = .ok (.invokevirtual idx, 3)) (k : CLg l d Mj (Value.ref x0 :: [v1, v2]) mi ml z (fun x mi ml z => Ev l (d + 1) M (pc + 3) (L, .long x :: S, st mi ml z) Q)) : Ev l (d + 1) M pc (L, v2 :: v1 :: .ref x0 :: S, st mi ml z) Q := by
  obtain ⟨h1, h2, h3, h4, T, N, h5⟩ := hs
  exact Ev.callV (As := [v1, v2]) (b1 := 0) (s1 := 0) h1 h2 h3 h4 h5 hx rfl hvs hvl hrs (Nat.zero_le _) (Nat.zero_le _) (Or.inl rfl) hd k (fun v σ ⟨x1, mi1, ml1, z1, e1, e2, q⟩ => by subst e1; subst e2; exact q)
theorem cS2L {idx : Nat} {v1 v2 : Value} (hs : a_SS M.1.cls idx Mj 2) (hvs : ([v1, v2] : List Value).all a_okArg = true) (hvl : (a_flat [v1, v2]).length ≤ Mj.2.2.1) (hrs : (S.map fun v => v.category).sum ≤ 8) (hd : decode M.2.1 pc = .ok (.invokestatic idx, 3)) (k : CLg l d Mj [v1, v2] mi ml z (fun x mi ml z => Ev l (d + 1) M (pc + 3) (L, .long x :: S, st mi ml z) Q)) : Ev l (d + 1) M pc (L, v2 :: v1 :: S, st mi ml z) Q :=
  Ev.callS (As := [v1, v2]) hs.1 hs.2.1 hs.2.2 rfl hvs hvl hrs hd k (fun v σ ⟨x1, mi1, ml1, z1, e1, e2, q⟩ => by subst e1; subst e2; exact q)
theorem cN2L {idx : Nat} {v1 v2 : Value} (hs : a_SN M.1.cls idx Mj 2) (hvs : ([v1, v2] : List Value).all a_okArg = true) (hvl : (a_flat [v1, v2]).length ≤ Mj.2.2.1) (hrs : (S.map fun v => v.category).sum ≤ 8) (hd : decode M.2.1 pc = .ok (.invokestatic idx, 3)) (k : CLg l d Mj [v1, v2] mi ml z (fun x mi ml z => Ev l (d + 1) M (pc + 3) (L, .long x :: S, st mi ml z) Q)) : Ev l (d + 1) M pc (L, v2 :: v1 :: S, st mi ml z) Q :=
  Ev.callSN (As := [v1, v2]) hs.1 hs.2.1 hs.2.2 rfl hvs hvl hrs hd k (fun v σ ⟨x1, mi1, ml1, z1, e1, e2, q⟩ => by subst e1; subst e2; exact q)
theorem cV3I {x0 ci idx : Nat} {v1 v2 v3 : Value} (hs : a_SV M.1.cls idx Mj 3 ci) (hx : SH[x0]? = some (.inl ci)) (hvs : (Value.ref x0 :: [v1, v2, v3]).all a_okArg = true) (hvl : (a_flat (Value.ref x0 :: [v1, v2, v3])).length ≤ Mj.2.2.1) (hrs : (S.map fun v => v.category).sum ≤ 8) (hd : decode M.2.1 pc = .ok (.invokevirtual idx, 3)) (k : CI l d Mj (Value.ref x0 :: [v1, v2, v3]) mi ml z (fun x mi ml z => Ev l (d + 1) M (pc + 3) (L, .int x :: S, st mi ml z) Q)) : Ev l (d + 1) M pc (L, v3 :: v2 :: v1 :: .ref x0 :: S, st mi ml z) Q := by
  obtain ⟨h1, h2, h3, h4, T, N, h5⟩ := hs
  exact Ev.callV (As := [v1, v2, v3]) (b1 := 0) (s1 := 0) h1 h2 h3 h4 h5 hx rfl hvs hvl hrs (Nat.zero_le _) (Nat.zero_le _) (Or.inl rfl) hd k (fun v σ ⟨x1, mi1, ml1, z1, e1, e2, q⟩ => by subst e1; subst e2; exact q)
theorem cS3I {idx : Nat} {v1 v2 v3 : Value} (hs : a_SS M.1.cls idx Mj 3) (hvs : ([v1, v2, v3] : List Value).all a_okArg = true) (hvl : (a_flat [v1, v2, v3]).length ≤ Mj.2.2.1) (hrs : (S.map fun v => v.category).sum ≤ 8) (hd : decode M.2.1 pc = .ok (.invokestatic idx, 3)) (k : CI l d Mj [v1, v2, v3] mi ml z (fun x mi ml z => Ev l (d + 1) M (pc + 3) (L, .int x :: S, st mi ml z) Q)) : Ev l (d + 1) M pc (L, v3 :: v2 :: v1 :: S, st mi ml z) Q :=
  Ev.callS (As := [v1, v2, v3]) hs.1 hs.2.1 hs.2.2 rfl hvs hvl hrs hd k (fun v σ ⟨x1, mi1, ml1, z1, e1, e2, q⟩ => by subst e1; subst e2; exact q)
theorem cN3I {idx : Nat} {v1 v2 v3 : Value} (hs : a_SN M.1.cls idx Mj 3) (hvs : ([v1, v2, v3] : List Value).all a_okArg = true) (hvl : (a_flat [v1, v2, v3]).length ≤ Mj.2.2.1) (hrs : (S.map fun v => v.category).sum ≤ 8) (hd : decode M.2.1 pc = .ok (.invokestatic idx, 3)) (k : CI l d Mj [v1, v2, v3] mi ml z (fun x mi ml z => Ev l (d + 1) M (pc + 3) (L, .int x :: S, st mi ml z) Q)) : Ev l (d + 1) M pc (L, v3 :: v2 :: v1 :: S, st mi ml z) Q :=
  Ev.callSN (As := [v1, v2, v3]) hs.1 hs.2.1 hs.2.2 rfl hvs hvl hrs hd k (fun v σ ⟨x1, mi1, ml1, z1, e1, e2, q⟩ => by subst e1; subst e2; exact q)
theorem cV3V {x0 ci idx : Nat} {v1 v2 v3 : Value} (hs : a_SV M.1.cls idx Mj 3 ci) (hx : SH[x0]? = some (.inl ci)) (hvs : (Value.ref x0 :: [v1, v2, v3]).all a_okArg = true) (hvl : (a_flat (Value.ref x0 :: [v1, v2, v3])).length ≤ Mj.2.2.1) (hrs : (S.map fun v => v.category).sum ≤ 8) (hd : decode M.2.1 pc = .ok (.invokevirtual idx, 3)) (k : CV l d Mj (Value.ref x0 :: [v1, v2, v3]) mi ml z (fun mi ml z => Ev l (d + 1) M (pc + 3) (L, S, st mi ml z) Q)) : Ev l (d + 1) M pc (L, v3 :: v2 :: v1 :: .ref x0 :: S, st mi ml z) Q := by
  obtain ⟨h1, h2, h3, h4, T, N, h5⟩ := hs
  exact Ev.callV (As := [v1, v2, v3]) (b1 := 0) (s1 := 0) h1 h2 h3 h4 h5 hx rfl hvs hvl hrs (Nat.zero_le _) (Nat.zero_le _) (Or.inl rfl) hd k (fun v σ ⟨mi1, ml1, z1, e1, e2, q⟩ => by subst e1; subst e2; exact q)
theorem cS3V {idx : Nat} {v1 v2 v3 : Value} (hs : a_SS M.1.cls idx Mj 3) (hvs : ([v1, v2, v3] : List Value).all a_okArg = true) (hvl : (a_flat [v1, v2, v3]).length ≤ Mj.2.2.1) (hrs : (S.map fun v => v.category).sum ≤ 8) (hd : decode M.2.1 pc = .ok (.invokestatic idx, 3)) (k : CV l d Mj [v1, v2, v3] mi ml z (fun mi ml z => Ev l (d + 1) M (pc + 3) (L, S, st mi ml z) Q)) : Ev l (d + 1) M pc (L, v3 :: v2 :: v1 :: S, st mi ml z) Q :=
  Ev.callS (As := [v1, v2, v3]) hs.1 hs.2.1 hs.2.2 rfl hvs hvl hrs hd k (fun v σ ⟨mi1, ml1, z1, e1, e2, q⟩ => by subst e1; subst e2; exact q)
theorem cN3V {idx : Nat} {v1 v2 v3 : Value} (hs : a_SN M.1.cls idx Mj 3) (hvs : ([v1, v2, v3] : List Value).all a_okArg = true) (hvl : (a_flat [v1, v2, v3]).length ≤ Mj.2.2.1) (hrs : (S.map fun v => v.category).sum ≤ 8) (hd : decode M.2.1 pc = .ok (.invokestatic idx, 3)) (k : CV l d Mj [v1, v2, v3] mi ml z (fun mi ml z => Ev l (d + 1) M (pc + 3) (L, S, st mi ml z) Q)) : Ev l (d + 1) M pc (L, v3 :: v2 :: v1 :: S, st mi ml z) Q :=
  Ev.callSN (As := [v1, v2, v3]) hs.1 hs.2.1 hs.2.2 rfl hvs hvl hrs hd k (fun v σ ⟨mi1, ml1, z1, e1, e2, q⟩ => by subst e1; subst e2; exact q)
theorem cV3L {x0 ci idx : Nat} {v1 v2 v3 : Value} (hs : a_SV M.1.cls idx Mj 3 ci) (hx : SH[x0]? = some (.inl ci)) (hvs : (Value.ref x0 :: [v1, v2, v3]).all a_okArg = true) (hvl : (a_flat (Value.ref x0 :: [v1, v2, v3])).length ≤ Mj.2.2.1) (hrs : (S.map fun v => v.category).sum ≤ 8) (hd : decode M.2.1 pc = .ok (.invokevirtual idx, 3)) (k : CLg l d Mj (Value.ref x0 :: [v1, v2, v3]) mi ml z (fun x mi ml z => Ev l (d + 1) M (pc + 3) (L, .long x :: S, st mi ml z) Q)) : Ev l (d + 1) M pc (L, v3 :: v2 :: v1 :: .ref x0 :: S, st mi ml z) Q := by
  obtain ⟨h1, h2, h3, h4, T, N, h5⟩ := hs
  exact Ev.callV (As := [v1, v2, v3]) (b1 := 0) (s1 := 0) h1 h2 h3 h4 h5 hx rfl hvs hvl hrs (Nat.zero_le _) (Nat.zero_le _) (Or.inl rfl) hd k (fun v σ ⟨x1, mi1, ml1, z1, e1, e2, q⟩ => by subst e1; subst e2; exact q)
theorem cS3L {idx : Nat} {v1 v2 v3 : Value} (hs : a_SS M.1.cls idx Mj 3) (hvs : ([v1, v2, v3] : List Value).all a_okArg = true) (hvl : (a_flat [v1, v2, v3]).length ≤ Mj.2.2.1) (hrs : (S.map fun v => v.category).sum ≤ 8) (hd : decode M.2.1 pc = .ok (.invokestatic idx, 3)) (k : CLg l d Mj [v1, v2, v3] mi ml z (fun x mi ml z => Ev l (d + 1) M (pc + 3) (L, .long x :: S, st mi ml z) Q)) : Ev l (d + 1) M pc (L, v3 :: v2 :: v1 :: S, st mi ml z) Q :=
  Ev.callS (As := [v1, v2, v3]) hs.1 hs.2.1 hs.2.2 rfl hvs hvl hrs hd k (fun v σ ⟨x1, mi1, ml1, z1, e1, e2, q⟩ => by subst e1; subst e2; exact q)
theorem cN3L {idx : Nat} {v1 v2 v3 : Value} (hs : a_SN M.1.cls idx Mj 3) (hvs : ([v1, v2, v3] : List Value).all a_okArg = true) (hvl : (a_flat [v1, v2, v3]).length ≤ Mj.2.2.1) (hrs : (S.map fun v => v.category).sum ≤ 8) (hd : decode M.2.1 pc = .ok (.invokestatic idx, 3)) (k : CLg l d Mj [v1, v2, v3] mi ml z (fun x mi ml z => Ev l (d + 1) M (pc + 3) (L, .long x :: S, st mi ml z) Q)) : Ev l (d + 1) M pc (L, v3 :: v2 :: v1 :: S, st mi ml z) Q :=
  Ev.callSN (As := [v1, v2, v3]) hs.1 hs.2.1 hs.2.2 rfl hvs hvl hrs hd k (fun v σ ⟨x1, mi1, ml1, z1, e1, e2, q⟩ => by subst e1; subst e2; exact q)
theorem cV4I {x0 ci idx : Nat} {v1 v2 v3 v4 : Value} (hs : a_SV M.1.cls idx Mj 4 ci) (hx : SH[x0]? = some (.inl ci)) (hvs : (Value.ref x0 :: [v1, v2, v3, v4]).all a_okArg = true) (hvl : (a_flat (Value.ref x0 :: [v1, v2, v3, v4])).length ≤ Mj.2.2.1) (hrs : (S.map fun v => v.category).sum ≤ 8) (hd : decode M.2.1 pc = .ok (.invokevirtual idx, 3)) (k : CI l d Mj (Value.ref x0 :: [v1, v2, v3, v4]) mi ml z (fun x mi ml z => Ev l (d + 1) M (pc + 3) (L, .int x :: S, st mi ml z) Q)) : Ev l (d + 1) M pc (L, v4 :: v3 :: v2 :: v1 :: .ref x0 :: S, st mi ml z) Q := by
  obtain ⟨h1, h2, h3, h4, T, N, h5⟩ := hs
  exact Ev.callV (As := [v1, v2, v3, v4]) (b1 := 0) (s1 := 0) h1 h2 h3 h4 h5 hx rfl hvs hvl hrs (Nat.zero_le _) (Nat.zero_le _) (Or.inl rfl) hd k (fun v σ ⟨x1, mi1, ml1, z1, e1, e2, q⟩ => by subst e1; subst e2; exact q)
theorem cS4I {idx : Nat} {v1 v2 v3 v4 : Value} (hs : a_SS M.1.cls idx Mj 4) (hvs : ([v1, v2, v3, v4] : List Value).all a_okArg = true) (hvl : (a_flat [v1, v2, v3, v4]).length ≤ Mj.2.2.1) (hrs : (S.map fun v => v.category).sum ≤ 8) (hd : decode M.2.1 pc = .ok (.invokestatic idx, 3)) (k : CI l d Mj [v1, v2, v3, v4] mi ml z (fun x mi ml z => Ev l (d + 1) M (pc + 3) (L, .int x :: S, st mi ml z) Q)) : Ev l (d + 1) M pc (L, v4 :: v3 :: v2 :: v1 :: S, st mi ml z) Q :=
  Ev.callS (As := [v1, v2, v3, v4]) hs.1 hs.2.1 hs.2.2 rfl hvs hvl hrs hd k (fun v σ ⟨x1, mi1, ml1, z1, e1, e2, q⟩ => by subst e1; subst e2; exact q)
theorem cN4I {idx : Nat} {v1 v2 v3 v4 : Value} (hs : a_SN M.1.cls idx Mj 4) (hvs : ([v1, v2, v3, v4] : List Value).all a_okArg = true) (hvl : (a_flat [v1, v2, v3, v4]).length ≤ Mj.2.2.1) (hrs : (S.map fun v => v.category).sum ≤ 8) (hd : decode M.2.1 pc = .ok (.invokestatic idx, 3)) (k : CI l d Mj [v1, v2, v3, v4] mi ml z (fun x mi ml z => Ev l (d + 1) M (pc + 3) (L, .int x :: S, st mi ml z) Q)) : Ev l (d + 1) M pc (L, v4 :: v3 :: v2 :: v1 :: S, st mi ml z) Q :=
  Ev.callSN (As := [v1, v2, v3, v4]) hs.1 hs.2.1 hs.2.2 rfl hvs hvl hrs hd k (fun v σ ⟨x1, mi1, ml1, z1, e1, e2, q⟩ => by subst e1; subst e2; exact q)
theorem cV4V {x0 ci idx : Nat} {v1 v2 v3 v4 : Value} (hs : a_SV M.1.cls idx Mj 4 ci) (hx : SH[x0]? = some (.inl ci)) (hvs : (Value.ref x0 :: [v1, v2, v3, v4]).all a_okArg = true) (hvl : (a_flat (Value.ref x0 :: [v1, v2, v3, v4])).length ≤ Mj.2.2.1) (hrs : (S.map fun v => v.category).sum ≤ 8) (hd : decode M.2.1 pc = .ok (.invokevirtual idx, 3)) (k : CV l d Mj (Value.ref x0 :: [v1, v2, v3, v4]) mi ml z (fun mi ml z => Ev l (d + 1) M (pc + 3) (L, S, st mi ml z) Q)) : Ev l (d + 1) M pc (L, v4 :: v3 :: v2 :: v1 :: .ref x0 :: S, st mi ml z) Q := by
  obtain ⟨h1, h2, h3, h4, T, N, h5⟩ := hs
  exact Ev.callV (As := [v1, v2, v3, v4]) (b1 := 0) (s1 := 0) h1 h2 h3 h4 h5 hx rfl hvs hvl hrs (Nat.zero_le _) (Nat.zero_le _) (Or.inl rfl) hd k (fun v σ ⟨mi1, ml1, z1, e1, e2, q⟩ => by subst e1; subst e2; exact q)
theorem cS4V {idx : Nat} {v1 v2 v3 v4 : Value} (hs : a_SS M.1.cls idx Mj 4) (hvs : ([v1, v2, v3, v4] : List Value).all a_okArg = true) (hvl : (a_flat [v1, v2, v3, v4]).length ≤ Mj.2.2.1) (hrs : (S.map fun v => v.category).sum ≤ 8) (hd : decode M.2.1 pc = .ok (.invokestatic idx, 3)) (k : CV l d Mj [v1, v2, v3, v4] mi ml z (fun mi ml z => Ev l (d + 1) M (pc + 3) (L, S, st mi ml z) Q)) : Ev l (d + 1) M pc (L, v4 :: v3 :: v2 :: v1 :: S, st mi ml z) Q :=
  Ev.callS (As := [v1, v2, v3, v4]) hs.1 hs.2.1 hs.2.2 rfl hvs hvl hrs hd k (fun v σ ⟨mi1, ml1, z1, e1, e2, q⟩ => by subst e1; subst e2; exact q)
theorem cN4V {idx : Nat} {v1 v2 v3 v4 : Value} (hs : a_SN M.1.cls idx Mj 4) (hvs : ([v1, v2, v3, v4] : List Value).all a_okArg = true) (hvl : (a_flat [v1, v2, v3, v4]).length ≤ Mj.2.2.1) (hrs : (S.map fun v => v.category).sum ≤ 8) (hd : decode M.2.1 pc = .ok (.invokestatic idx, 3)) (k : CV l d Mj [v1, v2, v3, v4] mi ml z (fun mi ml z => Ev l (d + 1) M (pc + 3) (L, S, st mi ml z) Q)) : Ev l (d + 1) M pc (L, v4 :: v3 :: v2 :: v1 :: S, st mi ml z) Q :=
  Ev.callSN (As := [v1, v2, v3, v4]) hs.1 hs.2.1 hs.2.2 rfl hvs hvl hrs hd k (fun v σ ⟨mi1, ml1, z1, e1, e2, q⟩ => by subst e1; subst e2; exact q)
theorem cV4L {x0 ci idx : Nat} {v1 v2 v3 v4 : Value} (hs : a_SV M.1.cls idx Mj 4 ci) (hx : SH[x0]? = some (.inl ci)) (hvs : (Value.ref x0 :: [v1, v2, v3, v4]).all a_okArg = true) (hvl : (a_flat (Value.ref x0 :: [v1, v2, v3, v4])).length ≤ Mj.2.2.1) (hrs : (S.map fun v => v.category).sum ≤ 8) (hd : decode M.2.1 pc = .ok (.invokevirtual idx, 3)) (k : CLg l d Mj (Value.ref x0 :: [v1, v2, v3, v4]) mi ml z (fun x mi ml z => Ev l (d + 1) M (pc + 3) (L, .long x :: S, st mi ml z) Q)) : Ev l (d + 1) M pc (L, v4 :: v3 :: v2 :: v1 :: .ref x0 :: S, st mi ml z) Q := by
  obtain ⟨h1, h2, h3, h4, T, N, h5⟩ := hs
  exact Ev.callV (As := [v1, v2, v3, v4]) (b1 := 0) (s1 := 0) h1 h2 h3 h4 h5 hx rfl hvs hvl hrs (Nat.zero_le _) (Nat.zero_le _) (Or.inl rfl) hd k (fun v σ ⟨x1, mi1, ml1, z1, e1, e2, q⟩ => by subst e1; subst e2; exact q)
theorem cS4L {idx : Nat} {v1 v2 v3 v4 : Value} (hs : a_SS M.1.cls idx Mj 4) (hvs : ([v1, v2, v3, v4] : List Value).all a_okArg = true) (hvl : (a_flat [v1, v2, v3, v4]).length ≤ Mj.2.2.1) (hrs : (S.map fun v => v.category).sum ≤ 8) (hd : decode M.2.1 pc = .ok (.invokestatic idx, 3)) (k : CLg l d Mj [v1, v2, v3, v4] mi ml z (fun x mi ml z => Ev l (d + 1) M (pc + 3) (L, .long x :: S, st mi ml z) Q)) : Ev l (d + 1) M pc (L, v4 :: v3 :: v2 :: v1 :: S, st mi ml z) Q :=
  Ev.callS (As := [v1, v2, v3, v4]) hs.1 hs.2.1 hs.2.2 rfl hvs hvl hrs hd k (fun v σ ⟨x1, mi1, ml1, z1, e1, e2, q⟩ => by subst e1; subst e2; exact q)
theorem cN4L {idx : Nat} {v1 v2 v3 v4 : Value} (hs : a_SN M.1.cls idx Mj 4) (hvs : ([v1, v2, v3, v4] : List Value).all a_okArg = true) (hvl : (a_flat [v1, v2, v3, v4]).length ≤ Mj.2.2.1) (hrs : (S.map fun v => v.category).sum ≤ 8) (hd : decode M.2.1 pc = .ok (.invokestatic idx, 3)) (k : CLg l d Mj [v1, v2, v3, v4] mi ml z (fun x mi ml z => Ev l (d + 1) M (pc + 3) (L, .long x :: S, st mi ml z) Q)) : Ev l (d + 1) M pc (L, v4 :: v3 :: v2 :: v1 :: S, st mi ml z) Q :=
  Ev.callSN (As := [v1, v2, v3, v4]) hs.1 hs.2.1 hs.2.2 rfl hvs hvl hrs hd k (fun v σ ⟨x1, mi1, ml1, z1, e1, e2, q⟩ => by subst e1; subst e2; exact q)
theorem cV5I {x0 ci idx : Nat} {v1 v2 v3 v4 v5 : Value} (hs : a_SV M.1.cls idx Mj 5 ci) (hx : SH[x0]? = some (.inl ci)) (hvs : (Value.ref x0 :: [v1, v2, v3, v4, v5]).all a_okArg = true) (hvl : (a_flat (Value.ref x0 :: [v1, v2, v3, v4, v5])).length ≤ Mj.2.2.1) (hrs : (S.map fun v => v.category).sum ≤ 8) (hd : decode M.2.1 pc = .ok (.invokevirtual idx, 3)) (k : CI l d Mj (Value.ref x0 :: [v1, v2, v3, v4, v5]) mi ml z (fun x mi ml z => Ev l (d + 1) M (pc + 3) (L, .int x :: S, st mi ml z) Q)) : Ev l (d + 1) M pc (L, v5 :: v4 :: v3 :: v2 :: v1 :: .ref x0 :: S, st mi ml z) Q := by
  obtain ⟨h1, h2, h3, h4, T, N, h5⟩ := hs
  exact Ev.callV (As := [v1, v2, v3, v4, v5]) (b1 := 0) (s1 := 0) h1 h2 h3 h4 h5 hx rfl hvs hvl hrs (Nat.zero_le _) (Nat.zero_le _) (Or.inl rfl) hd k (fun v σ ⟨x1, mi1, ml1, z1, e1, e2, q⟩ => by subst e1; subst e2; exact q)
theorem cS5I {idx : Nat} {v1 v2 v3 v4 v5 : Value} (hs : a_SS M.1.cls idx Mj 5) (hvs : ([v1, v2, v3, v4, v5] : List Value).all a_okArg = true) (hvl : (a_flat [v1, v2, v3, v4, v5]).length ≤ Mj.2.2.1) (hrs : (S.map fun v => v.category).sum ≤ 8) (hd : decode M.2.1 pc = .ok (.invokestatic idx, 3)) (k : CI l d Mj [v1, v2, v3, v4, v5] mi ml z (fun x mi ml z => Ev l (d + 1) M (pc + 3) (L, .int x :: S, st mi ml z) Q)) : Ev l (d + 1) M pc (L, v5 :: v4 :: v3 :: v2 :: v1 :: S, st mi ml z) Q :=
  Ev.callS (As := [v1, v2, v3, v4, v5]) hs.1 hs.2.1 hs.2.2 rfl hvs hvl hrs hd k (fun v σ ⟨x1, mi1, ml1, z1, e1, e2, q⟩ => by subst e1; subst e2; exact q)
theorem cN5I {idx : Nat} {v1 v2 v3 v4 v5 : Value} (hs : a_SN M.1.cls idx Mj 5) (hvs : ([v1, v2, v3, v4, v5] : List Value).all a_okArg = true) (hvl : (a_flat [v1, v2, v3, v4, v5]).length ≤ Mj.2.2.1) (hrs : (S.map fun v => v.category).sum ≤ 8) (hd : decode M.2.1 pc = .ok (.invokestatic idx, 3)) (k : CI l d Mj [v1, v2, v3, v4, v5] mi ml z (fun x mi ml z => Ev l (d + 1) M (pc + 3) (L, .int x :: S, st mi ml z) Q)) : Ev l (d + 1) M pc (L, v5 :: v4 :: v3 :: v2 :: v1 :: S, st mi ml z) Q :=
  Ev.callSN (As := [v1, v2, v3, v4, v5]) hs.1 hs.2.1 hs.2.2 rfl hvs hvl hrs hd k (fun v σ ⟨x1, mi1, ml1, z1, e1, e2, q⟩ => by subst e1; subst e2; exact q)
theorem cV5V {x0 ci idx : Nat} {v1 v2 v3 v4 v5 : Value} (hs : a_SV M.1.cls idx Mj 5 ci) (hx : SH[x0]? = some (.inl ci)) (hvs : (Value.ref x0 :: [v1, v2, v3, v4, v5]).all a_okArg = true) (hvl : (a_flat (Value.ref x0 :: [v1, v2, v3, v4, v5])).length ≤ Mj.2.2.1) (hrs : (S.map fun v => v.category).sum ≤ 8) (hd : decode M.2.1 pc = .ok (.invokevirtual idx, 3)) (k : CV l d Mj (Value.ref x0 :: [v1, v2, v3, v4, v5]) mi ml z (fun mi ml z => Ev l (d + 1) M (pc + 3) (L, S, st mi ml z) Q)) : Ev l (d + 1) M pc (L, v5 :: v4 :: v3 :: v2 :: v1 :: .ref x0 :: S, st mi ml z) Q := by
  obtain ⟨h1, h2, h3, h4, T, N, h5⟩ := hs
  exact Ev.callV (As := [v1, v2, v3, v4, v5]) (b1 := 0) (s1 := 0) h1 h2 h3 h4 h5 hx rfl hvs hvl hrs (Nat.zero_le _) (Nat.zero_le _) (Or.inl rfl) hd k (fun v σ ⟨mi1, ml1, z1, e1, e2, q⟩ => by subst e1; subst e2; exact q)
theorem cS5V {idx : Nat} {v1 v2 v3 v4 v5 : Value} (hs : a_SS M.1.cls idx Mj 5) (hvs : ([v1, v2, v3, v4, v5] : List Value).all a_okArg = true) (hvl : (a_flat [v1, v2, v3, v4, v5]).length ≤ Mj.2.2.1) (hrs : (S.map fun v => v.category).sum ≤ 8) (hd : decode M.2.1 pc = .ok (.invokestatic idx, 3)) (k : CV l d Mj [v1, v2, v3, v4, v5] mi ml z (fun mi ml z => Ev l (d + 1) M (pc + 3) (L, S, st mi ml z) Q)) : Ev l (d + 1) M pc (L, v5 :: v4 :: v3 :: v2 :: v1 :: S, st mi ml z) Q :=
  Ev.callS (As := [v1, v2, v3, v4, v5]) hs.1 hs.2.1 hs.2.2 rfl hvs hvl hrs hd k (fun v σ ⟨mi1, ml1, z1, e1, e2, q⟩ => by subst e1; subst e2; exact q)
theorem cN5V {idx : Nat} {v1 v2 v3 v4 v5 : Value} (hs : a_SN M.1.cls idx Mj 5) (hvs : ([v1, v2, v3, v4, v5] : List Value).all a_okArg = true) (hvl : (a_flat [v1, v2, v3, v4, v5]).length ≤ Mj.2.2.1) (hrs : (S.map fun v => v.category).sum ≤ 8) (hd : decode M.2.1 pc = .ok (.invokestatic idx, 3)) (k : CV l d Mj [v1, v2, v3, v4, v5] mi ml z (fun mi ml z => Ev l (d + 1) M (pc + 3) (L, S, st mi ml z) Q)) : Ev l (d + 1) M pc (L, v5 :: v4 :: v3 :: v2 :: v1 :: S, st mi ml z) Q :=
  Ev.callSN (As := [v1, v2, v3, v4, v5]) hs.1 hs.2.1 hs.2.2 rfl hvs hvl hrs hd k (fun v σ ⟨mi1, ml1, z1, e1, e2, q⟩ => by subst e1; subst e2; exact q)
theorem cV5L {x0 ci idx : Nat} {v1 v2 v3 v4 v5 : Value} (hs : a_SV M.1.cls idx Mj 5 ci) (hx : SH[x0]? = some (.inl ci)) (hvs : (Value.ref x0 :: [v1, v2, v3, v4, v5]).all a_okArg = true) (hvl : (a_flat (Value.ref x0 :: [v1, v2, v3, v4, v5])).length ≤ Mj.2.2.1) (hrs : (S.map fun v => v.category).sum ≤ 8) (hd : decode M.2.1 pc = .ok (.invokevirtual idx, 3)) (k : CLg l d Mj (Value.ref x0 :: [v1, v2, v3, v4, v5]) mi ml z (fun x mi ml z => Ev l (d + 1) M (pc + 3) (L, .long x :: S, st mi ml z) Q)) : Ev l (d + 1) M pc (L, v5 :: v4 :: v3 :: v2 :: v1 :: .ref x0 :: S, st mi ml z) Q := by
  obtain ⟨h1, h2, h3, h4, T, N, h5⟩ := hs
  exact Ev.callV (As := [v1, v2, v3, v4, v5]) (b1 := 0) (s1 := 0) h1 h2 h3 h4 h5 hx rfl hvs hvl hrs (Nat.zero_le _) (Nat.zero_le _) (Or.inl rfl) hd k (fun v σ ⟨x1, mi1, ml1, z1, e1, e2, q⟩ => by subst e1; subst e2; exact q)
theorem cS5L {idx : Nat} {v1 v2 v3 v4 v5 : Value} (hs : a_SS M.1.cls idx Mj 5) (hvs : ([v1, v2, v3, v4, v5] : List Value).all a_okArg = true) (hvl : (a_flat [v1, v2, v3, v4, v5]).length ≤ Mj.2.2.1) (hrs : (S.map fun v => v.category).sum ≤ 8) (hd : decode M.2.1 pc = .ok (.invokestatic idx, 3)) (k : CLg l d Mj [v1, v2, v3, v4, v5] mi ml z (fun x mi ml z => Ev l (d + 1) M (pc + 3) (L, .long x :: S, st mi ml z) Q)) : Ev l (d + 1) M pc (L, v5 :: v4 :: v3 :: v2 :: v1 :: S, st mi ml z) Q :=
  Ev.callS (As := [v1, v2, v3, v4, v5]) hs.1 hs.2.1 hs.2.2 rfl hvs hvl hrs hd k (fun v σ ⟨x1, mi1, ml1, z1, e1, e2, q⟩ => by subst e1; subst e2; exact q)
theorem cN5L {idx : Nat} {v1 v2 v3 v4 v5 : Value} (hs : a_SN M.1.cls idx Mj 5) (hvs : ([v1, v2, v3, v4, v5] : List Value).all a_okArg = true) (hvl : (a_flat [v1, v2, v3, v4, v5]).length ≤ Mj.2.2.1) (hrs : (S.map fun v => v.category).sum ≤ 8) (hd : decode M.2.1 pc = .ok (.invokestatic idx, 3)) (k : CLg l d Mj [v1, v2, v3, v4, v5] mi ml z (fun x mi ml z => Ev l (d + 1) M (pc + 3) (L, .long x :: S, st mi ml z) Q)) : Ev l (d + 1) M pc (L, v5 :: v4 :: v3 :: v2 :: v1 :: S, st mi ml z) Q :=
  Ev.callSN (As := [v1, v2, v3, v4, v5]) hs.1 hs.2.1 hs.2.2 rfl hvs hvl hrs hd k (fun v σ ⟨x1, mi1, ml1, z1, e1, e2, q⟩ => by subst e1; subst e2; exact q)
theorem cV6I {x0 ci idx : Nat} {v1 v2 v3 v4 v5 v6 : Value} (hs : a_SV M.1.cls idx Mj 6 ci) (hx : SH[x0]? = some (.inl ci)) (hvs : (Value.ref x0 :: [v1, v2, v3, v4, v5, v6]).all a_okArg = true) (hvl : (a_flat (Value.ref x0 :: [v1, v2, v3, v4, v5, v6])).length ≤ Mj.2.2.1) (hrs : (S.map fun v => v.category).sum ≤ 8) (hd : decode M.2.1 pc = .ok (.invokevirtual idx, 3)) (k : CI l d Mj (Value.ref x0 :: [v1, v2, v3, v4, v5, v6]) mi ml z (fun x mi ml z => Ev l (d + 1) M (pc + 3) (L, .int x :: S, st mi ml z) Q)) : Ev l (d + 1) M pc (L, v6 :: v5 :: v4 :: v3 :: v2 :: v1 :: .ref x0 :: S, st mi ml z) Q := by
  obtain ⟨h1, h2, h3, h4, T, N, h5⟩ := hs
  exact Ev.callV (As := [v1, v2, v3, v4, v5, v6]) (b1 := 0) (s1 := 0) h1 h2 h3 h4 h5 hx rfl hvs hvl hrs (Nat.zero_le _) (Nat.zero_le _) (Or.inl rfl) hd k (fun v σ ⟨x1, mi1, ml1, z1, e1, e2, q⟩ => by subst e1; subst e2; exact q)
theorem cS6I {idx : Nat} {v1 v2 v3 v4 v5 v6 : Value} (hs : a_SS M.1.cls idx Mj 6) (hvs : ([v1, v2, v3, v4, v5, v6] : List Value).all a_okArg = true) (hvl : (a_flat [v1, v2, v3, v4, v5, v6]).length ≤ Mj.2.2.1) (hrs : (S.map fun v => v.category).sum ≤ 8) (hd : decode M.2.1 pc = .ok (.invokestatic idx, 3)) (k : CI l d Mj [v1, v2, v3, v4, v5, v6] mi ml z (fun x mi ml z => Ev l (d + 1) M (pc + 3) (L, .int x :: S, st mi ml z) Q)) : Ev l (d + 1) M pc (L, v6 :: v5 :: v4 :: v3 :: v2 :: v1 :: S, st mi ml z) Q :=
  Ev.callS (As := [v1, v2, v3, v4, v5, v6]) hs.1 hs.2.1 hs.2.2 rfl hvs hvl hrs hd k (fun v σ ⟨x1, mi1, ml1, z1, e1, e2, q⟩ => by subst e1; subst e2; exact q)
theorem cV6V {x0 ci idx : Nat} {v1 v2 v3 v4 v5 v6 : Value} (hs : a_SV M.1.cls idx Mj 6 ci) (hx : SH[x0]? = some (.inl ci)) (hvs : (Value.ref x0 :: [v1, v2, v3, v4, v5, v6]).all a_okArg = true) (hvl : (a_flat (Value.ref x0 :: [v1, v2, v3, v4, v5, v6])).length ≤ Mj.2.2.1) (hrs : (S.map fun v => v.category).sum ≤ 8) (hd : decode M.2.1 pc = .ok (.invokevirtual idx, 3)) (k : CV l d Mj (Value.ref x0 :: [v1, v2, v3, v4, v5, v6]) mi ml z (fun mi ml z => Ev l (d + 1) M (pc + 3) (L, S, st mi ml z) Q)) : Ev l (d + 1) M pc (L, v6 :: v5 :: v4 :: v3 :: v2 :: v1 :: .ref x0 :: S, st mi ml z) Q := by
  obtain ⟨h1, h2, h3, h4, T, N, h5⟩ := hs
  exact Ev.callV (As := [v1, v2, v3, v4, v5, v6]) (b1 := 0) (s1 := 0) h1 h2 h3 h4 h5 hx rfl hvs hvl hrs (Nat.zero_le _) (Nat.zero_le _) (Or.inl rfl) hd k (fun v σ ⟨mi1, ml1, z1, e1, e2, q⟩ => by subst e1; subst e2; exact q)
theorem cS6V {idx : Nat} {v1 v2 v3 v4 v5 v6 : Value} (hs : a_SS M.1.cls idx Mj 6) (hvs : ([v1, v2, v3, v4, v5, v6] : List Value).all a_okArg = true) (hvl : (a_flat [v1, v2, v3, v4, v5, v6]).length ≤ Mj.2.2.1) (hrs : (S.map fun v => v.category).sum ≤ 8) (hd : decode M.2.1 pc = .ok (.invokestatic idx, 3)) (k : CV l d Mj [v1, v2, v3, v4, v5, v6] mi ml z (fun mi ml z => Ev l (d + 1) M (pc + 3) (L, S, st mi ml z) Q)) : Ev l (d + 1) M pc (L, v6 :: v5 :: v4 :: v3 :: v2 :: v1 :: S, st mi ml z) Q :=
  Ev.callS (As := [v1, v2, v3, v4, v5, v6]) hs.1 hs.2.1 hs.2.2 rfl hvs hvl hrs hd k (fun v σ ⟨mi1, ml1, z1, e1, e2, q⟩ => by subst e1; subst e2; exact q)
theorem cV6L {x0 ci idx : Nat} {v1 v2 v3 v4 v5 v6 : Value} (hs : a_SV M.1.cls idx Mj 6 ci) (hx : SH[x0]? = some (.inl ci)) (hvs : (Value.ref x0 :: [v1, v2, v3, v4, v5, v6]).all a_okArg = true) (hvl : (a_flat (Value.ref x0 :: [v1, v2, v3, v4, v5, v6])).length ≤ Mj.2.2.1) (hrs : (S.map fun v => v.category).sum ≤ 8) (hd : decode M.2.1 pc = .ok (.invokevirtual idx, 3)) (k : CLg l d Mj (Value.ref x0 :: [v1, v2, v3, v4, v5, v6]) mi ml z (fun x mi ml z => Ev l (d + 1) M (pc + 3) (L, .long x :: S, st mi ml z) Q)) : Ev l (d + 1) M pc (L, v6 :: v5 :: v4 :: v3 :: v2 :: v1 :: .ref x0 :: S, st mi ml z) Q := by
  obtain ⟨h1, h2, h3, h4, T, N, h5⟩ := hs
  exact Ev.callV (As := [v1, v2, v3, v4, v5, v6]) (b1 := 0) (s1 := 0) h1 h2 h3 h4 h5 hx rfl hvs hvl hrs (Nat.zero_le _) (Nat.zero_le _) (Or.inl rfl) hd k (fun v σ ⟨x1, mi1, ml1, z1, e1, e2, q⟩ => by subst e1; subst e2; exact q)
theorem cS6L {idx : Nat} {v1 v2 v3 v4 v5 v6 : Value} (hs : a_SS M.1.cls idx Mj 6) (hvs : ([v1, v2, v3, v4, v5, v6] : List Value).all a_okArg = true) (hvl : (a_flat [v1, v2, v3, v4, v5, v6]).length ≤ Mj.2.2.1) (hrs : (S.map fun v => v.category).sum ≤ 8) (hd : decode M.2.1 pc = .ok (.invokestatic idx, 3)) (k : CLg l d Mj [v1, v2, v3, v4, v5, v6] mi ml z (fun x mi ml z => Ev l (d + 1) M (pc + 3) (L, .long x :: S, st mi ml z) Q)) : Ev l (d + 1) M pc (L, v6 :: v5 :: v4 :: v3 :: v2 :: v1 :: S, st mi ml z) Q :=
  Ev.callS (As := [v1, v2, v3, v4, v5, v6]) hs.1 hs.2.1 hs.2.2 rfl hvs hvl hrs hd k (fun v σ ⟨x1, mi1, ml1, z1, e1, e2, q⟩ => by subst e1; subst e2; exact q)
end EVW
theorem sh0 : SH[0]? = some (.inr (7, 0)) := rfl
theorem sh1 : SH[1]? = some (.inl 11) := rfl
theorem sh2 : SH[2]? = some (.inr (1, 900)) := rfl
theorem sh3 : SH[3]? = some (.inl 0) := rfl
theorem sh4 : SH[4]? = some (.inr (0, 6)) := rfl
theorem sh5 : SH[5]? = some (.inr (0, 6)) := rfl
theorem sh6 : SH[6]? = some (.inr (0, 6)) := rfl
theorem sh7 : SH[7]? = some (.inr (0, 6)) := rfl
theorem sh8 : SH[8]? = some (.inr (0, 4)) := rfl
theorem sh9 : SH[9]? = some (.inr (0, 4)) := rfl
theorem sh10 : SH[10]? = some (.inr (0, 4)) := rfl
theorem sh11 : SH[11]? = some (.inr (0, 900)) := rfl
theorem sh12 : SH[12]? = some (.inl 8) := rfl
theorem sh13 : SH[13]? = some (.inl 4) := rfl
theorem sh14 : SH[14]? = some (.inl 1) := rfl
theorem sh15 : SH[15]? = some (.inr (0, 6)) := rfl
theorem sh16 : SH[16]? = some (.inr (0, 64)) := rfl
theorem sh17 : SH[17]? = some (.inl 5) := rfl
theorem sh18 : SH[18]? = some (.inl 0) := rfl
theorem sh19 : SH[19]? = some (.inr (0, 6)) := rfl
theorem sh20 : SH[20]? = some (.inr (0, 6)) := rfl
theorem sh21 : SH[21]? = some (.inr (0, 6)) := rfl
theorem sh22 : SH[22]? = some (.inr (0, 6)) := rfl
theorem sh23 : SH[23]? = some (.inr (0, 4)) := rfl
theorem sh24 : SH[24]? = some (.inr (0, 4)) := rfl
theorem sh25 : SH[25]? = some (.inr (0, 4)) := rfl
theorem sh26 : SH[26]? = some (.inr (0, 900)) := rfl
theorem sh27 : SH[27]? = some (.inr (0, 40)) := rfl
theorem sh28 : SH[28]? = some (.inr (0, 24)) := rfl
theorem sh29 : SH[29]? = some (.inr (0, 24)) := rfl
theorem sh30 : SH[30]? = some (.inr (0, 24)) := rfl
theorem sh31 : SH[31]? = some (.inr (0, 24)) := rfl
theorem sh32 : SH[32]? = some (.inr (0, 6)) := rfl
theorem sh33 : SH[33]? = some (.inl 5) := rfl
theorem sh34 : SH[34]? = some (.inr (0, 40)) := rfl
theorem sh35 : SH[35]? = some (.inr (0, 24)) := rfl
theorem sh36 : SH[36]? = some (.inr (0, 24)) := rfl
theorem sh37 : SH[37]? = some (.inr (0, 24)) := rfl
theorem sh38 : SH[38]? = some (.inr (0, 24)) := rfl
theorem sh39 : SH[39]? = some (.inr (0, 6)) := rfl
theorem sh40 : SH[40]? = some (.inr (4, 2)) := rfl
theorem sh41 : SH[41]? = some (.inr (2, 2)) := rfl
theorem sh42 : SH[42]? = some (.inl 3) := rfl
theorem sh43 : SH[43]? = some (.inr (6, 10)) := rfl
theorem sh44 : SH[44]? = some (.inr (0, 40)) := rfl
theorem sh45 : SH[45]? = some (.inr (0, 40)) := rfl
theorem sh46 : SH[46]? = some (.inr (0, 40)) := rfl
theorem sh47 : SH[47]? = some (.inr (0, 40)) := rfl
theorem sh48 : SH[48]? = some (.inr (0, 40)) := rfl
theorem sh49 : SH[49]? = some (.inr (0, 40)) := rfl
theorem sh50 : SH[50]? = some (.inr (0, 40)) := rfl
theorem sh51 : SH[51]? = some (.inr (0, 40)) := rfl
theorem sh52 : SH[52]? = some (.inr (0, 40)) := rfl
theorem sh53 : SH[53]? = some (.inr (0, 40)) := rfl
theorem sh54 : SH[54]? = some (.inr (0, 40)) := rfl
theorem sh55 : SH[55]? = some (.inl 2) := rfl
theorem sh56 : SH[56]? = some (.inr (0, 6)) := rfl
theorem sh57 : SH[57]? = some (.inr (0, 4)) := rfl
theorem sh58 : SH[58]? = some (.inr (0, 4)) := rfl
theorem sh59 : SH[59]? = some (.inr (0, 6)) := rfl
theorem sh60 : SH[60]? = some (.inl 7) := rfl
theorem sh61 : SH[61]? = some (.inr (0, 6)) := rfl
theorem sh62 : SH[62]? = some (.inr (0, 6)) := rfl
theorem sh63 : SH[63]? = some (.inr (0, 6)) := rfl
theorem sh64 : SH[64]? = some (.inr (0, 6)) := rfl
theorem sh65 : SH[65]? = some (.inr (0, 4)) := rfl
theorem sh66 : SH[66]? = some (.inr (0, 6)) := rfl
theorem sh67 : SH[67]? = some (.inr (0, 4)) := rfl
theorem sh68 : SH[68]? = some (.inl 10) := rfl
theorem sh69 : SH[69]? = some (.inr (0, 60)) := rfl
theorem sh70 : SH[70]? = some (.inr (0, 60)) := rfl
theorem sh71 : SH[71]? = some (.inr (0, 60)) := rfl
theorem sh72 : SH[72]? = some (.inr (0, 6)) := rfl
theorem sh73 : SH[73]? = some (.inr (0, 7)) := rfl
theorem sh74 : SH[74]? = some (.inr (0, 6)) := rfl
theorem sh75 : SH[75]? = some (.inl 6) := rfl
theorem sh76 : SH[76]? = some (.inr (0, 6)) := rfl
theorem sh77 : SH[77]? = some (.inr (0, 4)) := rfl
theorem sh78 : SH[78]? = some (.inr (5, 4)) := rfl
theorem sh79 : SH[79]? = some (.inl 5) := rfl
theorem sh80 : SH[80]? = some (.inl 0) := rfl
theorem sh81 : SH[81]? = some (.inr (0, 6)) := rfl
theorem sh82 : SH[82]? = some (.inr (0, 6)) := rfl
theorem sh83 : SH[83]? = some (.inr (0, 6)) := rfl
theorem sh84 : SH[84]? = some (.inr (0, 6)) := rfl
theorem sh85 : SH[85]? = some (.inr (0, 4)) := rfl
theorem sh86 : SH[86]? = some (.inr (0, 4)) := rfl
theorem sh87 : SH[87]? = some (.inr (0, 4)) := rfl
theorem sh88 : SH[88]? = some (.inr (0, 900)) := rfl
theorem sh89 : SH[89]? = some (.inr (0, 40)) := rfl
theorem sh90 : SH[90]? = some (.inr (0, 24)) := rfl
theorem sh91 : SH[91]? = some (.inr (0, 24)) := rfl
theorem sh92 : SH[92]? = some (.inr (0, 24)) := rfl
theorem sh93 : SH[93]? = some (.inr (0, 24)) := rfl
theorem sh94 : SH[94]? = some (.inr (0, 6)) := rfl
theorem sh95 : SH[95]? = some (.inl 5) := rfl
theorem sh96 : SH[96]? = some (.inl 0) := rfl
theorem sh97 : SH[97]? = some (.inr (0, 6)) := rfl
theorem sh98 : SH[98]? = some (.inr (0, 6)) := rfl
theorem sh99 : SH[99]? = some (.inr (0, 6)) := rfl
theorem sh100 : SH[100]? = some (.inr (0, 6)) := rfl
theorem sh101 : SH[101]? = some (.inr (0, 4)) := rfl
theorem sh102 : SH[102]? = some (.inr (0, 4)) := rfl
theorem sh103 : SH[103]? = some (.inr (0, 4)) := rfl
theorem sh104 : SH[104]? = some (.inr (0, 900)) := rfl
theorem sh105 : SH[105]? = some (.inr (0, 40)) := rfl
theorem sh106 : SH[106]? = some (.inr (0, 24)) := rfl
theorem sh107 : SH[107]? = some (.inr (0, 24)) := rfl
theorem sh108 : SH[108]? = some (.inr (0, 24)) := rfl
theorem sh109 : SH[109]? = some (.inr (0, 24)) := rfl
theorem sh110 : SH[110]? = some (.inr (0, 6)) := rfl
theorem sh111 : SH[111]? = some (.inl 9) := rfl
theorem sh112 : SH[112]? = some (.inr (3, 40)) := rfl
theorem sh113 : SH[113]? = some (.inl 9) := rfl
theorem sh114 : SH[114]? = some (.inr (3, 40)) := rfl
theorem sh115 : SH[115]? = some (.inl 9) := rfl
theorem sh116 : SH[116]? = some (.inr (3, 40)) := rfl
theorem sh117 : SH[117]? = some (.inl 9) := rfl
theorem sh118 : SH[118]? = some (.inr (3, 40)) := rfl
theorem sh119 : SH[119]? = some (.inl 12) := rfl
theorem sh120 : SH[120]? = some (.inr (0, 4113)) := rfl
theorem sh121 : SH[121]? = some (.inr (2, 2)) := rfl
theorem sh122 : SH[122]? = some (.inr (0, 900)) := rfl
theorem sh123 : SH[123]? = some (.inr (0, 1371)) := rfl
theorem sh124 : SH[124]? = some (.inr (0, 900)) := rfl
theorem sh125 : SH[125]? = some (.inr (0, 6)) := rfl
theorem sh126 : SH[126]? = some (.inr (0, 24)) := rfl
theorem sh127 : SH[127]? = some (.inr (0, 24)) := rfl
theorem sh128 : SH[128]? = some (.inr (0, 40)) := rfl
theorem sh129 : SH[129]? = some (.inr (0, 6)) := rfl
theorem sh130 : SH[130]? = some (.inr (0, 15625)) := rfl
theorem sh131 : SH[131]? = some (.inr (0, 6)) := rfl
theorem sh132 : SH[132]? = some (.inr (0, 4)) := rfl
theorem sh133 : SH[133]? = some (.inr (0, 6)) := rfl
theorem sh134 : SH[134]? = some (.inr (0, 4)) := rfl
theorem sh135 : SH[135]? = some (.inr (0, 4)) := rfl
theorem sh136 : SH[136]? = some (.inr (3, 160)) := rfl
theorem mr_1_0 (z : Nat) : MR z 1 0 = 2 := rfl
theorem mr_1_2 (z : Nat) : MR z 1 2 = 3 := rfl
theorem mr_1_3 (z : Nat) : MR z 1 3 = 12 := rfl
theorem mr_1_4 (z : Nat) : MR z 1 4 = 13 := rfl
theorem mr_1_7 (z : Nat) : MR z 1 7 = 14 := rfl
theorem mr_1_8 (z : Nat) : MR z 1 8 = 17 := rfl
theorem mr_1_9 (z : Nat) : MR z 1 9 = 33 := rfl
theorem mr_1_10 (z : Nat) : MR z 1 10 = 40 := rfl
theorem mr_1_11 (z : Nat) : MR z 1 11 = 41 := rfl
theorem mr_1_12 (z : Nat) : MR z 1 12 = 42 := rfl
theorem mr_1_13 (z : Nat) : MR z 1 13 = 55 := rfl
theorem mr_1_14 (z : Nat) : MR z 1 14 = 60 := rfl
theorem mr_1_15 (z : Nat) : MR z 1 15 = 68 := rfl
theorem mr_1_16 (z : Nat) : MR z 1 16 = 75 := rfl
theorem mr_1_17 (z : Nat) : MR z 1 17 = 78 := rfl
theorem mr_3_3 (z : Nat) : MR z 3 3 = 4 := rfl
theorem mr_3_4 (z : Nat) : MR z 3 4 = 5 := rfl
theorem mr_3_5 (z : Nat) : MR z 3 5 = 6 := rfl
theorem mr_3_6 (z : Nat) : MR z 3 6 = 7 := rfl
theorem mr_3_7 (z : Nat) : MR z 3 7 = 8 := rfl
theorem mr_3_8 (z : Nat) : MR z 3 8 = 9 := rfl
theorem mr_3_9 (z : Nat) : MR z 3 9 = 10 := rfl
theorem mr_3_10 (z : Nat) : MR z 3 10 = 11 := rfl
theorem mr_12_0 (z : Nat) : MR z 12 0 = 2 := rfl
theorem mr_13_0 (z : Nat) : MR z 13 0 = 12 := rfl
theorem mr_13_1 (z : Nat) : MR z 13 1 = 3 := rfl
theorem mr_14_0 (z : Nat) : MR z 14 0 = 15 := rfl
theorem mr_14_1 (z : Nat) : MR z 14 1 = 16 := rfl
theorem mr_17_0 (z : Nat) : MR z 17 0 = 18 := rfl
theorem mr_17_1 (z : Nat) : MR z 17 1 = 14 := rfl
theorem mr_17_2 (z : Nat) : MR z 17 2 = 27 := rfl
theorem mr_17_3 (z : Nat) : MR z 17 3 = 28 := rfl
theorem mr_17_4 (z : Nat) : MR z 17 4 = 29 := rfl
theorem mr_17_5 (z : Nat) : MR z 17 5 = 30 := rfl
theorem mr_17_6 (z : Nat) : MR z 17 6 = 31 := rfl
theorem mr_17_7 (z : Nat) : MR z 17 7 = 32 := rfl
theorem mr_18_3 (z : Nat) : MR z 18 3 = 19 := rfl
theorem mr_18_4 (z : Nat) : MR z 18 4 = 20 := rfl
theorem mr_18_5 (z : Nat) : MR z 18 5 = 21 := rfl
theorem mr_18_6 (z : Nat) : MR z 18 6 = 22 := rfl
theorem mr_18_7 (z : Nat) : MR z 18 7 = 23 := rfl
theorem mr_18_8 (z : Nat) : MR z 18 8 = 24 := rfl
theorem mr_18_9 (z : Nat) : MR z 18 9 = 25 := rfl
theorem mr_18_10 (z : Nat) : MR z 18 10 = 26 := rfl
theorem mr_33_0 (z : Nat) : MR z 33 0 = 18 := rfl
theorem mr_33_1 (z : Nat) : MR z 33 1 = 14 := rfl
theorem mr_33_2 (z : Nat) : MR z 33 2 = 34 := rfl
theorem mr_33_3 (z : Nat) : MR z 33 3 = 35 := rfl
theorem mr_33_4 (z : Nat) : MR z 33 4 = 36 := rfl
theorem mr_33_5 (z : Nat) : MR z 33 5 = 37 := rfl
theorem mr_33_6 (z : Nat) : MR z 33 6 = 38 := rfl
theorem mr_33_7 (z : Nat) : MR z 33 7 = 39 := rfl
theorem mr_40_0 (z : Nat) : MR z 40 0 = 79 := rfl
theorem mr_40_1 (z : Nat) : MR z 40 1 = 95 := rfl
theorem mr_42_0 (z : Nat) : MR z 42 0 = 43 := rfl
theorem mr_42_1 (z : Nat) : MR z 42 1 = 54 := rfl
theorem mr_43_0 (z : Nat) : MR z 43 0 = 44 := rfl
theorem mr_43_1 (z : Nat) : MR z 43 1 = 45 := rfl
theorem mr_43_2 (z : Nat) : MR z 43 2 = 46 := rfl
theorem mr_43_3 (z : Nat) : MR z 43 3 = 47 := rfl
theorem mr_43_4 (z : Nat) : MR z 43 4 = 48 := rfl
theorem mr_43_5 (z : Nat) : MR z 43 5 = 49 := rfl
theorem mr_43_6 (z : Nat) : MR z 43 6 = 50 := rfl
theorem mr_43_7 (z : Nat) : MR z 43 7 = 51 := rfl
theorem mr_43_8 (z : Nat) : MR z 43 8 = 52 := rfl
theorem mr_43_9 (z : Nat) : MR z 43 9 = 53 := rfl
theorem mr_55_0 (z : Nat) : MR z 55 0 = 56 := rfl
theorem mr_55_1 (z : Nat) : MR z 55 1 = 57 := rfl
theorem mr_55_2 (z : Nat) : MR z 55 2 = 58 := rfl
theorem mr_55_3 (z : Nat) : MR z 55 3 = 59 := rfl
theorem mr_60_0 (z : Nat) : MR z 60 0 = 55 := rfl
theorem mr_60_2 (z : Nat) : MR z 60 2 = 61 := rfl
theorem mr_60_3 (z : Nat) : MR z 60 3 = 62 := rfl
theorem mr_60_4 (z : Nat) : MR z 60 4 = 63 := rfl
theorem mr_60_5 (z : Nat) : MR z 60 5 = 64 := rfl
theorem mr_60_6 (z : Nat) : MR z 60 6 = 65 := rfl
theorem mr_60_12 (z : Nat) : MR z 60 12 = 66 := rfl
theorem mr_60_13 (z : Nat) : MR z 60 13 = 67 := rfl
theorem mr_68_0 (z : Nat) : MR z 68 0 = 33 := rfl
theorem mr_68_1 (z : Nat) : MR z 68 1 = 55 := rfl
theorem mr_68_4 (z : Nat) : MR z 68 4 = 69 := rfl
theorem mr_68_5 (z : Nat) : MR z 68 5 = 70 := rfl
theorem mr_68_6 (z : Nat) : MR z 68 6 = 71 := rfl
theorem mr_68_7 (z : Nat) : MR z 68 7 = 72 := rfl
theorem mr_68_8 (z : Nat) : MR z 68 8 = 73 := rfl
theorem mr_68_10 (z : Nat) : MR z 68 10 = 74 := rfl
theorem mr_75_0 (z : Nat) : MR z 75 0 = 33 := rfl
theorem mr_75_1 (z : Nat) : MR z 75 1 = 55 := rfl
theorem mr_75_2 (z : Nat) : MR z 75 2 = 76 := rfl
theorem mr_75_4 (z : Nat) : MR z 75 4 = 77 := rfl
theorem mr_78_0 (z : Nat) : MR z 78 0 = 111 := rfl
theorem mr_78_1 (z : Nat) : MR z 78 1 = 113 := rfl
theorem mr_78_2 (z : Nat) : MR z 78 2 = 115 := rfl
theorem mr_78_3 (z : Nat) : MR z 78 3 = 117 := rfl
theorem mr_79_0 (z : Nat) : MR z 79 0 = 80 := rfl
theorem mr_79_1 (z : Nat) : MR z 79 1 = 14 := rfl
theorem mr_79_2 (z : Nat) : MR z 79 2 = 89 := rfl
theorem mr_79_3 (z : Nat) : MR z 79 3 = 90 := rfl
theorem mr_79_4 (z : Nat) : MR z 79 4 = 91 := rfl
theorem mr_79_5 (z : Nat) : MR z 79 5 = 92 := rfl
theorem mr_79_6 (z : Nat) : MR z 79 6 = 93 := rfl
theorem mr_79_7 (z : Nat) : MR z 79 7 = 94 := rfl
theorem mr_80_3 (z : Nat) : MR z 80 3 = 81 := rfl
theorem mr_80_4 (z : Nat) : MR z 80 4 = 82 := rfl
theorem mr_80_5 (z : Nat) : MR z 80 5 = 83 := rfl
theorem mr_80_6 (z : Nat) : MR z 80 6 = 84 := rfl
theorem mr_80_7 (z : Nat) : MR z 80 7 = 85 := rfl
theorem mr_80_8 (z : Nat) : MR z 80 8 = 86 := rfl
theorem mr_80_9 (z : Nat) : MR z 80 9 = 87 := rfl
theorem mr_80_10 (z : Nat) : MR z 80 10 = 88 := rfl
theorem mr_95_0 (z : Nat) : MR z 95 0 = 96 := rfl
theorem mr_95_1 (z : Nat) : MR z 95 1 = 14 := rfl
theorem mr_95_2 (z : Nat) : MR z 95 2 = 105 := rfl
theorem mr_95_3 (z : Nat) : MR z 95 3 = 106 := rfl
theorem mr_95_4 (z : Nat) : MR z 95 4 = 107 := rfl
theorem mr_95_5 (z : Nat) : MR z 95 5 = 108 := rfl
theorem mr_95_6 (z : Nat) : MR z 95 6 = 109 := rfl
theorem mr_95_7 (z : Nat) : MR z 95 7 = 110 := rfl
theorem mr_96_3 (z : Nat) : MR z 96 3 = 97 := rfl
theorem mr_96_4 (z : Nat) : MR z 96 4 = 98 := rfl
theorem mr_96_5 (z : Nat) : MR z 96 5 = 99 := rfl
theorem mr_96_6 (z : Nat) : MR z 96 6 = 100 := rfl
theorem mr_96_7 (z : Nat) : MR z 96 7 = 101 := rfl
theorem mr_96_8 (z : Nat) : MR z 96 8 = 102 := rfl
theorem mr_96_9 (z : Nat) : MR z 96 9 = 103 := rfl
theorem mr_96_10 (z : Nat) : MR z 96 10 = 104 := rfl
theorem mr_111_0 (z : Nat) : MR z 111 0 = 112 := rfl
theorem mr_113_0 (z : Nat) : MR z 113 0 = 114 := rfl
theorem mr_115_0 (z : Nat) : MR z 115 0 = 116 := rfl
theorem mr_117_0 (z : Nat) : MR z 117 0 = 118 := rfl
theorem mr_119_1 (z : Nat) : MR z 119 1 = 120 := rfl
theorem mr_119_2 (z : Nat) : MR z 119 2 = 121 := rfl
theorem mr_119_3 (z : Nat) : MR z 119 3 = 122 := rfl
theorem mr_119_4 (z : Nat) : MR z 119 4 = 123 := rfl
theorem mr_119_15 (z : Nat) : MR z 119 15 = 124 := rfl
theorem mr_119_16 (z : Nat) : MR z 119 16 = 125 := rfl
theorem mr_119_17 (z : Nat) : MR z 119 17 = 126 := rfl
theorem mr_119_18 (z : Nat) : MR z 119 18 = 127 := rfl
theorem mr_119_19 (z : Nat) : MR z 119 19 = 128 := rfl
theorem mr_119_23 (z : Nat) : MR z 119 23 = 129 := rfl
theorem mr_119_24 (z : Nat) : MR z 119 24 = 130 := rfl
theorem mr_119_26 (z : Nat) : MR z 119 26 = 131 := rfl
theorem mr_119_28 (z : Nat) : MR z 119 28 = 132 := rfl
theorem mr_119_31 (z : Nat) : MR z 119 31 = 133 := rfl
theorem mr_119_32 (z : Nat) : MR z 119 32 = 134 := rfl
theorem mr_119_33 (z : Nat) : MR z 119 33 = 135 := rfl
theorem mr_119_34 (z : Nat) : MR z 119 34 = 136 := rfl
theorem mr_60_1 (z : Nat) : MR z 60 1 = z := rfl
