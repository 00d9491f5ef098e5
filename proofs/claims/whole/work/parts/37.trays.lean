/-! ===== trays; told deeds one after the other ===== -/
abbrev Ty : Type := (Nat → Option Nat) × (Nat → Nat) × (Nat → Nat → Int64)
def TrC (mi : TMi) (ml : TMl) (ty : Ty) : Prop := ∀ t, t < 4 → mi (111 + 2 * t) 1 = oI (ty.1 t) ∧ (∀ s, ty.1 t = some s → s < 4) ∧ mi (111 + 2 * t) 2 = nI (ty.2.1 t) ∧ ty.2.1 t ≤ 40 ∧ ∀ i, i < ty.2.1 t → ml (112 + 2 * t) i = ty.2.2 t i
def TrR (mi : TMi) (ml : TMl) (ty : Ty) : Prop := ∀ t, t < 4 → mi 134 t = oI (ty.1 t) ∧ mi 135 t = nI (ty.2.1 t) ∧ ∀ i, i < ty.2.1 t → ml 136 (40 * t + i) = ty.2.2 t i
theorem TrC.fr {mi mi' : TMi} {ml : TMl} {ty : Ty} (h : TrC mi ml ty) (e : ∀ n, 111 ≤ n → n < 119 → mi' n = mi n) : TrC mi' ml ty := fun t ht => by
  rw [e _ (by omega) (by omega)]
  exact h t ht
theorem TrR.fr {mi mi' : TMi} {ml : TMl} {ty : Ty} (h : TrR mi ml ty) (e1 : mi' 134 = mi 134) (e2 : mi' 135 = mi 135) : TrR mi' ml ty := fun t ht => by
  rw [e1, e2]
  exact h t ht
theorem mr78 (z : Nat) {t : Nat} (ht : t < 4) : MR z 78 t = 111 + 2 * t := by
  match t, ht with
  | 0, _ => rfl
  | 1, _ => rfl
  | 2, _ => rfl
  | 3, _ => rfl
theorem shT {t : Nat} (ht : t < 4) : SH[111 + 2 * t]? = some (.inl 9) := by
  match t, ht with
  | 0, _ => rfl
  | 1, _ => rfl
  | 2, _ => rfl
  | 3, _ => rfl
/-- deeds one after the other: how many, why not the next, what is then -/
def runD (a : Ln) (vs : Nat → Int64) : Nat → Nat → Dt → Nat × Int32 × Dt
  | 0, i, d => (i, 0, d)
  | k + 1, i, d => if whyC (iDeed a d (vs i)).1 = 0 then runD a vs k (i + 1) (iDeed a d (vs i)).2 else (i, whyC (iDeed a d (vs i)).1, d)
theorem into_fail {a : Ln} {d : Dt} (ha : okLn a) {x y : Int32} (h : ¬ whyC (iInto a d x y).1 = 0) : (iInto a d x y).2 = d := by
  have hB6 := ha.1
  unfold iInto at h ⊢
  split at h
  · rename_i c
    rw [if_pos c]
    unfold dInto at h ⊢
    split at h
    · rename_i c1; rw [if_pos c1]
    · rename_i c1
      rw [if_neg c1]
      split at h
      · rename_i c2; rw [if_pos c2]
      · rename_i c2
        rw [if_neg c2]
        split at h
        · rename_i c3; rw [if_pos c3]
        · split at h
          · exact absurd whym1 h
          · split at h
            · exact absurd whym1 h
            · rename_i m em
              have := (lst_lt em).1
              exact absurd (why_nI (by omega)) h
  · rename_i c; rw [if_neg c]
theorem out_fail {a : Ln} {d : Dt} (ha : okLn a) (hd : okD a d) {x : Int32} (h : ¬ whyC (iOut a d x).1 = 0) : (iOut a d x).2 = d := by
  have hR4 := ha.2.1
  unfold iOut at h ⊢
  split at h
  · rename_i c
    rw [if_pos c]
    unfold dOut at h ⊢
    split at h
    · rfl
    · rename_i r e
      have := (hd.1 _ _ e).2
      exact absurd (why_nI (by omega)) h
  · rename_i c; rw [if_neg c]
theorem give_fail {a : Ln} {d : Dt} (y x n : Int32) (h : ¬ whyC (iGive a d y x n).1 = 0) : (iGive a d y x n).2 = d := by
  unfold iGive at h ⊢
  split at h
  · rename_i c
    rw [if_pos c]
    unfold dGive at h ⊢
    split at h
    · exact absurd (why_nI (by omega)) h
    · rename_i c2; rw [if_neg c2]
  · rename_i c; rw [if_neg c]
theorem pour_fail {a : Ln} {d : Dt} (hd : okD a d) (x n : Int32) (h : ¬ whyC (iPour a d x n).1 = 0) : (iPour a d x n).2 = d := by
  unfold iPour at h ⊢
  split at h
  · have := (hd.2.1 x.toInt.toNat).1
    exact absurd (why_nI (by omega)) h
  · rename_i c; rw [if_neg c]
theorem psh_le (T : Nat → Nat → Int) (B r n : Nat) : ∀ (k : Nat) (wo : Nat → Option Nat), (psh T B r n k wo).1 ≤ k
  | 0, wo => Nat.le_refl _
  | k + 1, wo => by
    simp only [psh]
    split
    · split
      · exact Nat.zero_le _
      · exact Nat.succ_le_succ (psh_le T B r n k _)
    · exact Nat.zero_le _
theorem wide_fail {a : Ln} {d : Dt} (x n : Int32) (h : ¬ whyC (iWide a d x n).1 = 0) : (iWide a d x n).2 = d := by
  unfold iWide at h ⊢
  split at h
  · exact absurd (why_nI (Nat.lt_of_le_of_lt (psh_le _ _ _ _ _ _) (by decide))) h
  · rename_i c; rw [if_neg c]
theorem deed_fail {a : Ln} {d : Dt} {v : Int64} (ha : okLn a) (hd : okD a d) (h : ¬ whyC (iDeed a d v).1 = 0) : (iDeed a d v).2 = d := by
  unfold iDeed at h ⊢
  by_cases c : 0 ≤ v.toInt ∧ v.toInt ≤ 499
  · rw [if_pos c] at h ⊢
    rcases (show v.toInt.toNat / 100 = 0 ∨ v.toInt.toNat / 100 = 1 ∨ v.toInt.toNat / 100 = 2 ∨ v.toInt.toNat / 100 = 3 ∨ v.toInt.toNat / 100 = 4 by omega) with q | q | q | q | q
    · rw [dN0 q] at h ⊢; exact into_fail ha h
    · rw [dN1 q] at h ⊢
      by_cases e : v.toInt.toNat / 10 % 10 = 0
      · rw [if_pos e] at h ⊢; exact out_fail ha hd h
      · rw [if_neg e]
    · rw [dN2 q] at h ⊢; exact give_fail _ _ _ h
    · rw [dN3 q] at h ⊢; exact pour_fail hd _ _ h
    · rw [dN4 q] at h ⊢; exact wide_fail _ _ h
  · rw [if_neg c]
theorem c_Tr_at_111 {l : Launch} {h : Nat} {mi : TMi} {ml : TMl} {z : Nat} {i n : Nat} {Q : Int64 → TMi → TMl → Nat → Prop} (hn : mi 111 2 = nI n) (hn40 : n ≤ 40) (hi : i < n) (hq : Q (ml 112 i) mi ml z) : CLg l (h + 2) m_Tr_at [.ref 111, .int (nI i)] mi ml z Q := by
  refine t_Tr_at_111 mi ml z _ (t_Tr_hasPlace_111 _ _ _ _ ⟨fun c => ?_, fun _ => ⟨fun c => absurd c (ge_no hn (by omega) hi), fun _ => ⟨fun c => absurd c (by decide), fun _ => ⟨in_nI (by omega) (by decide), ?_⟩⟩⟩⟩)
  · rw [i32_lt0, nI_toInt (by omega)] at c; omega
  · rw [cl_nI (by omega)]; exact hq
theorem c_Tr_at_113 {l : Launch} {h : Nat} {mi : TMi} {ml : TMl} {z : Nat} {i n : Nat} {Q : Int64 → TMi → TMl → Nat → Prop} (hn : mi 113 2 = nI n) (hn40 : n ≤ 40) (hi : i < n) (hq : Q (ml 114 i) mi ml z) : CLg l (h + 2) m_Tr_at [.ref 113, .int (nI i)] mi ml z Q := by
  refine t_Tr_at_113 mi ml z _ (t_Tr_hasPlace_113 _ _ _ _ ⟨fun c => ?_, fun _ => ⟨fun c => absurd c (ge_no hn (by omega) hi), fun _ => ⟨fun c => absurd c (by decide), fun _ => ⟨in_nI (by omega) (by decide), ?_⟩⟩⟩⟩)
  · rw [i32_lt0, nI_toInt (by omega)] at c; omega
  · rw [cl_nI (by omega)]; exact hq
theorem c_Tr_at_115 {l : Launch} {h : Nat} {mi : TMi} {ml : TMl} {z : Nat} {i n : Nat} {Q : Int64 → TMi → TMl → Nat → Prop} (hn : mi 115 2 = nI n) (hn40 : n ≤ 40) (hi : i < n) (hq : Q (ml 116 i) mi ml z) : CLg l (h + 2) m_Tr_at [.ref 115, .int (nI i)] mi ml z Q := by
  refine t_Tr_at_115 mi ml z _ (t_Tr_hasPlace_115 _ _ _ _ ⟨fun c => ?_, fun _ => ⟨fun c => absurd c (ge_no hn (by omega) hi), fun _ => ⟨fun c => absurd c (by decide), fun _ => ⟨in_nI (by omega) (by decide), ?_⟩⟩⟩⟩)
  · rw [i32_lt0, nI_toInt (by omega)] at c; omega
  · rw [cl_nI (by omega)]; exact hq
theorem c_Tr_at_117 {l : Launch} {h : Nat} {mi : TMi} {ml : TMl} {z : Nat} {i n : Nat} {Q : Int64 → TMi → TMl → Nat → Prop} (hn : mi 117 2 = nI n) (hn40 : n ≤ 40) (hi : i < n) (hq : Q (ml 118 i) mi ml z) : CLg l (h + 2) m_Tr_at [.ref 117, .int (nI i)] mi ml z Q := by
  refine t_Tr_at_117 mi ml z _ (t_Tr_hasPlace_117 _ _ _ _ ⟨fun c => ?_, fun _ => ⟨fun c => absurd c (ge_no hn (by omega) hi), fun _ => ⟨fun c => absurd c (by decide), fun _ => ⟨in_nI (by omega) (by decide), ?_⟩⟩⟩⟩)
  · rw [i32_lt0, nI_toInt (by omega)] at c; omega
  · rw [cl_nI (by omega)]; exact hq
theorem c_doAll_17_111 {l : Launch} {h : Nat} {mi : TMi} {ml : TMl} {z : Nat} {n : Nat} {vs : Nat → Int64} {a : Ln} {d : Dt} {Q : Int32 → TMi → TMl → Nat → Prop} (ha : okLn a) (hd : okD a d) (hl : LnC mi 18 a) (hc : Cs (mi 27) d) (hs : SL_17 mi a d) (hn : mi 111 2 = nI n) (hn40 : n ≤ 40) (hv : ∀ i, i < n → ml 112 i = vs i)
    (hq : ∀ mi', Fr [27, 15, 16, 28, 29, 30, 31, 32] mi mi' → Cs (mi' 27) (runD a vs n 0 d).2.2 → SL_17 mi' a (runD a vs n 0 d).2.2 → Q (nI (runD a vs n 0 d).1) mi' ml z) : CI l (h + 7) m_Sc_doAll [.ref 17, .ref 111] mi ml z Q := by
  refine t_Sc_doAll_17_111 mi ml z ?_
  generalize hG : runD a vs n 0 d = G at hq
  have key : ∀ k i d m, i + k = n → okD a d → Fr [27, 15, 16, 28, 29, 30, 31, 32] mi m → Cs (m 27) d → SL_17 m a d → G = runD a vs k i d → Ev l (h + 7) m_Sc_doAll 2 ([.ref 17, .ref 111, .int (nI i)], [], st m ml z) (qI Q) := by
    intro k
    induction k with
    | zero =>
      intro i d m hi hd F hc hs hG2
      have : i = n := by omega
      subst this
      rw [hG2] at hq
      exact t_Sc_doAll_17_111_2 m ml z _ ⟨fun _ => hq m F hc hs, fun c => absurd (le_at (by rw [F 111 (by decide)]; exact hn) (by omega)) c⟩
    | succ k ih =>
      intro i d m hi hd F hc hs hG2
      have hn' : m 111 2 = nI n := by rw [F 111 (by decide)]; exact hn
      refine t_Sc_doAll_17_111_2 m ml z _ ⟨fun c => absurd c (ge_no hn' (by omega) (by omega)), fun _ => c_Tr_at_111 hn' hn40 (by omega) ?_⟩
      rw [hv i (by omega)]
      refine c_whyNot_17 ha hd (hl.fr (fun k hk => F _ (by simp; omega))) hc hs (fun m' F' hc' hs' => ⟨fun c => ?_, fun c => ?_⟩)
      · rw [deed_fail ha hd c] at hc' hs'
        have e : G = (i, whyC (iDeed a d (vs i)).1, d) := by rw [hG2]; simp only [runD]; rw [if_neg c]
        rw [e] at hq
        exact hq m' (F.step F') hc' hs'
      · rw [nI_1]
        refine ih (i + 1) _ m' (by omega) (okD_deed ha hd _) (F.step F') hc' hs' ?_
        rw [hG2]; simp only [runD]; rw [if_pos c]
  exact key n 0 d mi (by omega) hd (Fr.refl _ _) hc hs hG.symm
theorem c_doAll_17_113 {l : Launch} {h : Nat} {mi : TMi} {ml : TMl} {z : Nat} {n : Nat} {vs : Nat → Int64} {a : Ln} {d : Dt} {Q : Int32 → TMi → TMl → Nat → Prop} (ha : okLn a) (hd : okD a d) (hl : LnC mi 18 a) (hc : Cs (mi 27) d) (hs : SL_17 mi a d) (hn : mi 113 2 = nI n) (hn40 : n ≤ 40) (hv : ∀ i, i < n → ml 114 i = vs i)
    (hq : ∀ mi', Fr [27, 15, 16, 28, 29, 30, 31, 32] mi mi' → Cs (mi' 27) (runD a vs n 0 d).2.2 → SL_17 mi' a (runD a vs n 0 d).2.2 → Q (nI (runD a vs n 0 d).1) mi' ml z) : CI l (h + 7) m_Sc_doAll [.ref 17, .ref 113] mi ml z Q := by
  refine t_Sc_doAll_17_113 mi ml z ?_
  generalize hG : runD a vs n 0 d = G at hq
  have key : ∀ k i d m, i + k = n → okD a d → Fr [27, 15, 16, 28, 29, 30, 31, 32] mi m → Cs (m 27) d → SL_17 m a d → G = runD a vs k i d → Ev l (h + 7) m_Sc_doAll 2 ([.ref 17, .ref 113, .int (nI i)], [], st m ml z) (qI Q) := by
    intro k
    induction k with
    | zero =>
      intro i d m hi hd F hc hs hG2
      have : i = n := by omega
      subst this
      rw [hG2] at hq
      exact t_Sc_doAll_17_113_2 m ml z _ ⟨fun _ => hq m F hc hs, fun c => absurd (le_at (by rw [F 113 (by decide)]; exact hn) (by omega)) c⟩
    | succ k ih =>
      intro i d m hi hd F hc hs hG2
      have hn' : m 113 2 = nI n := by rw [F 113 (by decide)]; exact hn
      refine t_Sc_doAll_17_113_2 m ml z _ ⟨fun c => absurd c (ge_no hn' (by omega) (by omega)), fun _ => c_Tr_at_113 hn' hn40 (by omega) ?_⟩
      rw [hv i (by omega)]
      refine c_whyNot_17 ha hd (hl.fr (fun k hk => F _ (by simp; omega))) hc hs (fun m' F' hc' hs' => ⟨fun c => ?_, fun c => ?_⟩)
      · rw [deed_fail ha hd c] at hc' hs'
        have e : G = (i, whyC (iDeed a d (vs i)).1, d) := by rw [hG2]; simp only [runD]; rw [if_neg c]
        rw [e] at hq
        exact hq m' (F.step F') hc' hs'
      · rw [nI_1]
        refine ih (i + 1) _ m' (by omega) (okD_deed ha hd _) (F.step F') hc' hs' ?_
        rw [hG2]; simp only [runD]; rw [if_pos c]
  exact key n 0 d mi (by omega) hd (Fr.refl _ _) hc hs hG.symm
theorem c_doAll_17_115 {l : Launch} {h : Nat} {mi : TMi} {ml : TMl} {z : Nat} {n : Nat} {vs : Nat → Int64} {a : Ln} {d : Dt} {Q : Int32 → TMi → TMl → Nat → Prop} (ha : okLn a) (hd : okD a d) (hl : LnC mi 18 a) (hc : Cs (mi 27) d) (hs : SL_17 mi a d) (hn : mi 115 2 = nI n) (hn40 : n ≤ 40) (hv : ∀ i, i < n → ml 116 i = vs i)
    (hq : ∀ mi', Fr [27, 15, 16, 28, 29, 30, 31, 32] mi mi' → Cs (mi' 27) (runD a vs n 0 d).2.2 → SL_17 mi' a (runD a vs n 0 d).2.2 → Q (nI (runD a vs n 0 d).1) mi' ml z) : CI l (h + 7) m_Sc_doAll [.ref 17, .ref 115] mi ml z Q := by
  refine t_Sc_doAll_17_115 mi ml z ?_
  generalize hG : runD a vs n 0 d = G at hq
  have key : ∀ k i d m, i + k = n → okD a d → Fr [27, 15, 16, 28, 29, 30, 31, 32] mi m → Cs (m 27) d → SL_17 m a d → G = runD a vs k i d → Ev l (h + 7) m_Sc_doAll 2 ([.ref 17, .ref 115, .int (nI i)], [], st m ml z) (qI Q) := by
    intro k
    induction k with
    | zero =>
      intro i d m hi hd F hc hs hG2
      have : i = n := by omega
      subst this
      rw [hG2] at hq
      exact t_Sc_doAll_17_115_2 m ml z _ ⟨fun _ => hq m F hc hs, fun c => absurd (le_at (by rw [F 115 (by decide)]; exact hn) (by omega)) c⟩
    | succ k ih =>
      intro i d m hi hd F hc hs hG2
      have hn' : m 115 2 = nI n := by rw [F 115 (by decide)]; exact hn
      refine t_Sc_doAll_17_115_2 m ml z _ ⟨fun c => absurd c (ge_no hn' (by omega) (by omega)), fun _ => c_Tr_at_115 hn' hn40 (by omega) ?_⟩
      rw [hv i (by omega)]
      refine c_whyNot_17 ha hd (hl.fr (fun k hk => F _ (by simp; omega))) hc hs (fun m' F' hc' hs' => ⟨fun c => ?_, fun c => ?_⟩)
      · rw [deed_fail ha hd c] at hc' hs'
        have e : G = (i, whyC (iDeed a d (vs i)).1, d) := by rw [hG2]; simp only [runD]; rw [if_neg c]
        rw [e] at hq
        exact hq m' (F.step F') hc' hs'
      · rw [nI_1]
        refine ih (i + 1) _ m' (by omega) (okD_deed ha hd _) (F.step F') hc' hs' ?_
        rw [hG2]; simp only [runD]; rw [if_pos c]
  exact key n 0 d mi (by omega) hd (Fr.refl _ _) hc hs hG.symm
theorem c_doAll_17_117 {l : Launch} {h : Nat} {mi : TMi} {ml : TMl} {z : Nat} {n : Nat} {vs : Nat → Int64} {a : Ln} {d : Dt} {Q : Int32 → TMi → TMl → Nat → Prop} (ha : okLn a) (hd : okD a d) (hl : LnC mi 18 a) (hc : Cs (mi 27) d) (hs : SL_17 mi a d) (hn : mi 117 2 = nI n) (hn40 : n ≤ 40) (hv : ∀ i, i < n → ml 118 i = vs i)
    (hq : ∀ mi', Fr [27, 15, 16, 28, 29, 30, 31, 32] mi mi' → Cs (mi' 27) (runD a vs n 0 d).2.2 → SL_17 mi' a (runD a vs n 0 d).2.2 → Q (nI (runD a vs n 0 d).1) mi' ml z) : CI l (h + 7) m_Sc_doAll [.ref 17, .ref 117] mi ml z Q := by
  refine t_Sc_doAll_17_117 mi ml z ?_
  generalize hG : runD a vs n 0 d = G at hq
  have key : ∀ k i d m, i + k = n → okD a d → Fr [27, 15, 16, 28, 29, 30, 31, 32] mi m → Cs (m 27) d → SL_17 m a d → G = runD a vs k i d → Ev l (h + 7) m_Sc_doAll 2 ([.ref 17, .ref 117, .int (nI i)], [], st m ml z) (qI Q) := by
    intro k
    induction k with
    | zero =>
      intro i d m hi hd F hc hs hG2
      have : i = n := by omega
      subst this
      rw [hG2] at hq
      exact t_Sc_doAll_17_117_2 m ml z _ ⟨fun _ => hq m F hc hs, fun c => absurd (le_at (by rw [F 117 (by decide)]; exact hn) (by omega)) c⟩
    | succ k ih =>
      intro i d m hi hd F hc hs hG2
      have hn' : m 117 2 = nI n := by rw [F 117 (by decide)]; exact hn
      refine t_Sc_doAll_17_117_2 m ml z _ ⟨fun c => absurd c (ge_no hn' (by omega) (by omega)), fun _ => c_Tr_at_117 hn' hn40 (by omega) ?_⟩
      rw [hv i (by omega)]
      refine c_whyNot_17 ha hd (hl.fr (fun k hk => F _ (by simp; omega))) hc hs (fun m' F' hc' hs' => ⟨fun c => ?_, fun c => ?_⟩)
      · rw [deed_fail ha hd c] at hc' hs'
        have e : G = (i, whyC (iDeed a d (vs i)).1, d) := by rw [hG2]; simp only [runD]; rw [if_neg c]
        rw [e] at hq
        exact hq m' (F.step F') hc' hs'
      · rw [nI_1]
        refine ih (i + 1) _ m' (by omega) (okD_deed ha hd _) (F.step F') hc' hs' ?_
        rw [hG2]; simp only [runD]; rw [if_pos c]
  exact key n 0 d mi (by omega) hd (Fr.refl _ _) hc hs hG.symm
theorem c_doAll_33_111 {l : Launch} {h : Nat} {mi : TMi} {ml : TMl} {z : Nat} {n : Nat} {vs : Nat → Int64} {a : Ln} {d : Dt} {Q : Int32 → TMi → TMl → Nat → Prop} (ha : okLn a) (hd : okD a d) (hl : LnC mi 18 a) (hc : Cs (mi 34) d) (hs : SL_33 mi a d) (hn : mi 111 2 = nI n) (hn40 : n ≤ 40) (hv : ∀ i, i < n → ml 112 i = vs i)
    (hq : ∀ mi', Fr [34, 15, 16, 35, 36, 37, 38, 39] mi mi' → Cs (mi' 34) (runD a vs n 0 d).2.2 → SL_33 mi' a (runD a vs n 0 d).2.2 → Q (nI (runD a vs n 0 d).1) mi' ml z) : CI l (h + 7) m_Sc_doAll [.ref 33, .ref 111] mi ml z Q := by
  refine t_Sc_doAll_33_111 mi ml z ?_
  generalize hG : runD a vs n 0 d = G at hq
  have key : ∀ k i d m, i + k = n → okD a d → Fr [34, 15, 16, 35, 36, 37, 38, 39] mi m → Cs (m 34) d → SL_33 m a d → G = runD a vs k i d → Ev l (h + 7) m_Sc_doAll 2 ([.ref 33, .ref 111, .int (nI i)], [], st m ml z) (qI Q) := by
    intro k
    induction k with
    | zero =>
      intro i d m hi hd F hc hs hG2
      have : i = n := by omega
      subst this
      rw [hG2] at hq
      exact t_Sc_doAll_33_111_2 m ml z _ ⟨fun _ => hq m F hc hs, fun c => absurd (le_at (by rw [F 111 (by decide)]; exact hn) (by omega)) c⟩
    | succ k ih =>
      intro i d m hi hd F hc hs hG2
      have hn' : m 111 2 = nI n := by rw [F 111 (by decide)]; exact hn
      refine t_Sc_doAll_33_111_2 m ml z _ ⟨fun c => absurd c (ge_no hn' (by omega) (by omega)), fun _ => c_Tr_at_111 hn' hn40 (by omega) ?_⟩
      rw [hv i (by omega)]
      refine c_whyNot_33 ha hd (hl.fr (fun k hk => F _ (by simp; omega))) hc hs (fun m' F' hc' hs' => ⟨fun c => ?_, fun c => ?_⟩)
      · rw [deed_fail ha hd c] at hc' hs'
        have e : G = (i, whyC (iDeed a d (vs i)).1, d) := by rw [hG2]; simp only [runD]; rw [if_neg c]
        rw [e] at hq
        exact hq m' (F.step F') hc' hs'
      · rw [nI_1]
        refine ih (i + 1) _ m' (by omega) (okD_deed ha hd _) (F.step F') hc' hs' ?_
        rw [hG2]; simp only [runD]; rw [if_pos c]
  exact key n 0 d mi (by omega) hd (Fr.refl _ _) hc hs hG.symm
theorem c_doAll_33_113 {l : Launch} {h : Nat} {mi : TMi} {ml : TMl} {z : Nat} {n : Nat} {vs : Nat → Int64} {a : Ln} {d : Dt} {Q : Int32 → TMi → TMl → Nat → Prop} (ha : okLn a) (hd : okD a d) (hl : LnC mi 18 a) (hc : Cs (mi 34) d) (hs : SL_33 mi a d) (hn : mi 113 2 = nI n) (hn40 : n ≤ 40) (hv : ∀ i, i < n → ml 114 i = vs i)
    (hq : ∀ mi', Fr [34, 15, 16, 35, 36, 37, 38, 39] mi mi' → Cs (mi' 34) (runD a vs n 0 d).2.2 → SL_33 mi' a (runD a vs n 0 d).2.2 → Q (nI (runD a vs n 0 d).1) mi' ml z) : CI l (h + 7) m_Sc_doAll [.ref 33, .ref 113] mi ml z Q := by
  refine t_Sc_doAll_33_113 mi ml z ?_
  generalize hG : runD a vs n 0 d = G at hq
  have key : ∀ k i d m, i + k = n → okD a d → Fr [34, 15, 16, 35, 36, 37, 38, 39] mi m → Cs (m 34) d → SL_33 m a d → G = runD a vs k i d → Ev l (h + 7) m_Sc_doAll 2 ([.ref 33, .ref 113, .int (nI i)], [], st m ml z) (qI Q) := by
    intro k
    induction k with
    | zero =>
      intro i d m hi hd F hc hs hG2
      have : i = n := by omega
      subst this
      rw [hG2] at hq
      exact t_Sc_doAll_33_113_2 m ml z _ ⟨fun _ => hq m F hc hs, fun c => absurd (le_at (by rw [F 113 (by decide)]; exact hn) (by omega)) c⟩
    | succ k ih =>
      intro i d m hi hd F hc hs hG2
      have hn' : m 113 2 = nI n := by rw [F 113 (by decide)]; exact hn
      refine t_Sc_doAll_33_113_2 m ml z _ ⟨fun c => absurd c (ge_no hn' (by omega) (by omega)), fun _ => c_Tr_at_113 hn' hn40 (by omega) ?_⟩
      rw [hv i (by omega)]
      refine c_whyNot_33 ha hd (hl.fr (fun k hk => F _ (by simp; omega))) hc hs (fun m' F' hc' hs' => ⟨fun c => ?_, fun c => ?_⟩)
      · rw [deed_fail ha hd c] at hc' hs'
        have e : G = (i, whyC (iDeed a d (vs i)).1, d) := by rw [hG2]; simp only [runD]; rw [if_neg c]
        rw [e] at hq
        exact hq m' (F.step F') hc' hs'
      · rw [nI_1]
        refine ih (i + 1) _ m' (by omega) (okD_deed ha hd _) (F.step F') hc' hs' ?_
        rw [hG2]; simp only [runD]; rw [if_pos c]
  exact key n 0 d mi (by omega) hd (Fr.refl _ _) hc hs hG.symm
theorem c_doAll_33_115 {l : Launch} {h : Nat} {mi : TMi} {ml : TMl} {z : Nat} {n : Nat} {vs : Nat → Int64} {a : Ln} {d : Dt} {Q : Int32 → TMi → TMl → Nat → Prop} (ha : okLn a) (hd : okD a d) (hl : LnC mi 18 a) (hc : Cs (mi 34) d) (hs : SL_33 mi a d) (hn : mi 115 2 = nI n) (hn40 : n ≤ 40) (hv : ∀ i, i < n → ml 116 i = vs i)
    (hq : ∀ mi', Fr [34, 15, 16, 35, 36, 37, 38, 39] mi mi' → Cs (mi' 34) (runD a vs n 0 d).2.2 → SL_33 mi' a (runD a vs n 0 d).2.2 → Q (nI (runD a vs n 0 d).1) mi' ml z) : CI l (h + 7) m_Sc_doAll [.ref 33, .ref 115] mi ml z Q := by
  refine t_Sc_doAll_33_115 mi ml z ?_
  generalize hG : runD a vs n 0 d = G at hq
  have key : ∀ k i d m, i + k = n → okD a d → Fr [34, 15, 16, 35, 36, 37, 38, 39] mi m → Cs (m 34) d → SL_33 m a d → G = runD a vs k i d → Ev l (h + 7) m_Sc_doAll 2 ([.ref 33, .ref 115, .int (nI i)], [], st m ml z) (qI Q) := by
    intro k
    induction k with
    | zero =>
      intro i d m hi hd F hc hs hG2
      have : i = n := by omega
      subst this
      rw [hG2] at hq
      exact t_Sc_doAll_33_115_2 m ml z _ ⟨fun _ => hq m F hc hs, fun c => absurd (le_at (by rw [F 115 (by decide)]; exact hn) (by omega)) c⟩
    | succ k ih =>
      intro i d m hi hd F hc hs hG2
      have hn' : m 115 2 = nI n := by rw [F 115 (by decide)]; exact hn
      refine t_Sc_doAll_33_115_2 m ml z _ ⟨fun c => absurd c (ge_no hn' (by omega) (by omega)), fun _ => c_Tr_at_115 hn' hn40 (by omega) ?_⟩
      rw [hv i (by omega)]
      refine c_whyNot_33 ha hd (hl.fr (fun k hk => F _ (by simp; omega))) hc hs (fun m' F' hc' hs' => ⟨fun c => ?_, fun c => ?_⟩)
      · rw [deed_fail ha hd c] at hc' hs'
        have e : G = (i, whyC (iDeed a d (vs i)).1, d) := by rw [hG2]; simp only [runD]; rw [if_neg c]
        rw [e] at hq
        exact hq m' (F.step F') hc' hs'
      · rw [nI_1]
        refine ih (i + 1) _ m' (by omega) (okD_deed ha hd _) (F.step F') hc' hs' ?_
        rw [hG2]; simp only [runD]; rw [if_pos c]
  exact key n 0 d mi (by omega) hd (Fr.refl _ _) hc hs hG.symm
theorem c_doAll_33_117 {l : Launch} {h : Nat} {mi : TMi} {ml : TMl} {z : Nat} {n : Nat} {vs : Nat → Int64} {a : Ln} {d : Dt} {Q : Int32 → TMi → TMl → Nat → Prop} (ha : okLn a) (hd : okD a d) (hl : LnC mi 18 a) (hc : Cs (mi 34) d) (hs : SL_33 mi a d) (hn : mi 117 2 = nI n) (hn40 : n ≤ 40) (hv : ∀ i, i < n → ml 118 i = vs i)
    (hq : ∀ mi', Fr [34, 15, 16, 35, 36, 37, 38, 39] mi mi' → Cs (mi' 34) (runD a vs n 0 d).2.2 → SL_33 mi' a (runD a vs n 0 d).2.2 → Q (nI (runD a vs n 0 d).1) mi' ml z) : CI l (h + 7) m_Sc_doAll [.ref 33, .ref 117] mi ml z Q := by
  refine t_Sc_doAll_33_117 mi ml z ?_
  generalize hG : runD a vs n 0 d = G at hq
  have key : ∀ k i d m, i + k = n → okD a d → Fr [34, 15, 16, 35, 36, 37, 38, 39] mi m → Cs (m 34) d → SL_33 m a d → G = runD a vs k i d → Ev l (h + 7) m_Sc_doAll 2 ([.ref 33, .ref 117, .int (nI i)], [], st m ml z) (qI Q) := by
    intro k
    induction k with
    | zero =>
      intro i d m hi hd F hc hs hG2
      have : i = n := by omega
      subst this
      rw [hG2] at hq
      exact t_Sc_doAll_33_117_2 m ml z _ ⟨fun _ => hq m F hc hs, fun c => absurd (le_at (by rw [F 117 (by decide)]; exact hn) (by omega)) c⟩
    | succ k ih =>
      intro i d m hi hd F hc hs hG2
      have hn' : m 117 2 = nI n := by rw [F 117 (by decide)]; exact hn
      refine t_Sc_doAll_33_117_2 m ml z _ ⟨fun c => absurd c (ge_no hn' (by omega) (by omega)), fun _ => c_Tr_at_117 hn' hn40 (by omega) ?_⟩
      rw [hv i (by omega)]
      refine c_whyNot_33 ha hd (hl.fr (fun k hk => F _ (by simp; omega))) hc hs (fun m' F' hc' hs' => ⟨fun c => ?_, fun c => ?_⟩)
      · rw [deed_fail ha hd c] at hc' hs'
        have e : G = (i, whyC (iDeed a d (vs i)).1, d) := by rw [hG2]; simp only [runD]; rw [if_neg c]
        rw [e] at hq
        exact hq m' (F.step F') hc' hs'
      · rw [nI_1]
        refine ih (i + 1) _ m' (by omega) (okD_deed ha hd _) (F.step F') hc' hs' ?_
        rw [hG2]; simp only [runD]; rw [if_pos c]
  exact key n 0 d mi (by omega) hd (Fr.refl _ _) hc hs hG.symm
theorem c_doAll_17 {l : Launch} {h : Nat} {mi : TMi} {ml : TMl} {z : Nat} {t : Nat} {ty : Ty} {a : Ln} {d : Dt} {Q : Int32 → TMi → TMl → Nat → Prop} (ht : t < 4) (hy : TrC mi ml ty) (ha : okLn a) (hd : okD a d) (hl : LnC mi 18 a) (hc : Cs (mi 27) d) (hs : SL_17 mi a d)
    (hq : ∀ mi', Fr [27, 15, 16, 28, 29, 30, 31, 32] mi mi' → Cs (mi' 27) (runD a (ty.2.2 t) (ty.2.1 t) 0 d).2.2 → SL_17 mi' a (runD a (ty.2.2 t) (ty.2.1 t) 0 d).2.2 → Q (nI (runD a (ty.2.2 t) (ty.2.1 t) 0 d).1) mi' ml z) : CI l (h + 7) m_Sc_doAll [.ref 17, .ref (111 + 2 * t)] mi ml z Q := by
  obtain ⟨-, -, h3, h4, h5⟩ := hy t ht
  match t, ht with
  | 0, _ => exact c_doAll_17_111 ha hd hl hc hs h3 h4 h5 hq
  | 1, _ => exact c_doAll_17_113 ha hd hl hc hs h3 h4 h5 hq
  | 2, _ => exact c_doAll_17_115 ha hd hl hc hs h3 h4 h5 hq
  | 3, _ => exact c_doAll_17_117 ha hd hl hc hs h3 h4 h5 hq
theorem c_doAll_33 {l : Launch} {h : Nat} {mi : TMi} {ml : TMl} {z : Nat} {t : Nat} {ty : Ty} {a : Ln} {d : Dt} {Q : Int32 → TMi → TMl → Nat → Prop} (ht : t < 4) (hy : TrC mi ml ty) (ha : okLn a) (hd : okD a d) (hl : LnC mi 18 a) (hc : Cs (mi 34) d) (hs : SL_33 mi a d)
    (hq : ∀ mi', Fr [34, 15, 16, 35, 36, 37, 38, 39] mi mi' → Cs (mi' 34) (runD a (ty.2.2 t) (ty.2.1 t) 0 d).2.2 → SL_33 mi' a (runD a (ty.2.2 t) (ty.2.1 t) 0 d).2.2 → Q (nI (runD a (ty.2.2 t) (ty.2.1 t) 0 d).1) mi' ml z) : CI l (h + 7) m_Sc_doAll [.ref 33, .ref (111 + 2 * t)] mi ml z Q := by
  obtain ⟨-, -, h3, h4, h5⟩ := hy t ht
  match t, ht with
  | 0, _ => exact c_doAll_33_111 ha hd hl hc hs h3 h4 h5 hq
  | 1, _ => exact c_doAll_33_113 ha hd hl hc hs h3 h4 h5 hq
  | 2, _ => exact c_doAll_33_115 ha hd hl hc hs h3 h4 h5 hq
  | 3, _ => exact c_doAll_33_117 ha hd hl hc hs h3 h4 h5 hq
theorem deed_rng {a : Ln} {d : Dt} {v : Int64} (h : whyC (iDeed a d v).1 = 0) : iDeed a d v = iDeedN a d v.toInt.toNat ∧ v.toInt32 = nI v.toInt.toNat ∧ v.toInt.toNat < 500 := by
  by_cases c : 0 ≤ v.toInt ∧ v.toInt ≤ 499
  · exact ⟨if_pos c, l32_nI c.1 c.2, by omega⟩
  · unfold iDeed at h
    rw [if_neg c] at h
    dsimp only at h
    rw [why11] at h
    exact absurd h (by decide)
theorem runD_le {a : Ln} {vs : Nat → Int64} : ∀ {k i : Nat} {d : Dt}, (runD a vs k i d).1 ≤ i + k
  | 0, i, d => Nat.le_refl _
  | k + 1, i, d => by
    simp only [runD]
    split
    · have := runD_le (a := a) (vs := vs) (k := k) (i := i + 1) (d := (iDeed a d (vs i)).2)
      omega
    · dsimp only; omega
theorem okD_run {a : Ln} {vs : Nat → Int64} (ha : okLn a) : ∀ {k i : Nat} {d : Dt}, okD a d → okD a (runD a vs k i d).2.2
  | 0, i, d, h => h
  | k + 1, i, d, h => by
    simp only [runD]
    split
    · exact okD_run ha (okD_deed ha h _)
    · exact h
theorem tix {t i : Nat} (ht : t < 4) (hi : i < 40) : (40 * nI t + nI i).toNatClampNeg = 40 * t + i ∧ vp_in (40 * nI t + nI i) 160 := by
  have e : (40 * nI t : Int32) + nI i = nI (40 * t + i) := by
    rw [show (40 : Int32) * nI t = nI (40 * t) from mulL 40 t, nI_add]
  rw [e]
  exact ⟨nI_clamp (by omega), vp_in_nI (by omega) (by decide)⟩
theorem c_tells {l : Launch} {h : Nat} {mi : TMi} {ml : TMl} {z : Nat} {t : Nat} {ty : Ty} {a : Ln} {d : Dt} {Q : Int32 → TMi → TMl → Nat → Prop} (ht : t < 4) (hy : TrR mi ml ty) (hy40 : ty.2.1 t ≤ 40) (ha : okLn a) (hd : okD a d) (hbd : bdLn a) (hl : LnR (mi 120) a) (hc : CrA mi d)
    (hq : ∀ mi', FRw mi mi' → F120 mi mi' → mi' 128 = mi 128 → CrA mi' (runD a (ty.2.2 t) (ty.2.1 t) 0 d).2.2 → mi' 119 21 = (runD a (ty.2.2 t) (ty.2.1 t) 0 d).2.1 → Q (nI (runD a (ty.2.2 t) (ty.2.1 t) 0 d).1) mi' ml z) : CI l (h + 7) m_R_tells [.ref 119, .int (nI t)] mi ml z Q := by
  refine t_R_tells mi ml z _ ?_
  generalize hG : runD a (ty.2.2 t) (ty.2.1 t) 0 d = G at hq
  have key : ∀ k i d m, i + k = ty.2.1 t → okD a d → FRw mi m → F120 mi m → m 128 = mi 128 → CrA m d → m 119 21 = 0 → G = runD a (ty.2.2 t) k i d → Ev l (h + 7) m_R_tells 7 ([.ref 119, .int (nI t), .int (nI i)], [], st m ml z) (qI Q) := by
    intro k
    induction k with
    | zero =>
      intro i d m hi hd Fp F2 F8 hc h21 hG2
      have e : i = ty.2.1 t := by omega
      have h135 : m 135 t = nI i := by rw [Fp.1 135 (by omega), (hy t ht).2.1, e]
      rw [hG2] at hq
      refine t_R_tells_7 m ml z _ _ ⟨in_nI ht (by decide), ?_⟩
      rw [cl_nI (by omega), h135]
      exact ⟨fun _ => ⟨in_nI ht (by decide), hq m Fp F2 F8 hc h21⟩, fun c => absurd (le_at rfl (by omega)) c⟩
    | succ k ih =>
      intro i d m hi hd Fp F2 F8 hc h21 hG2
      have h135 : m 135 t = nI (ty.2.1 t) := by rw [Fp.1 135 (by omega), (hy t ht).2.1]
      have x := tix ht (show i < 40 by omega)
      refine t_R_tells_7 m ml z _ _ ⟨in_nI ht (by decide), ?_⟩
      rw [cl_nI (by omega), h135, x.1]
      refine ⟨fun c => absurd c (ge_no rfl (by omega) (by omega)), fun _ => ⟨x.2, ?_⟩⟩
      rw [(hy t ht).2.2 i (by omega)]
      refine c_whyNotR ha hd hbd (hl.fr ha (fun k hk => F2 k (by omega))) hc (fun m5 F5 => ?_)
      rw [up_at]
      have G1 : FRw m (up m5 119 21 (whyC (iDeed a d (ty.2.2 t i)).1)) := (FRp.laws F5).w.trans (FRw.u119 _ _ (by decide))
      have G2 : F120 m (up m5 119 21 (whyC (iDeed a d (ty.2.2 t i)).1)) := F120.of (by rw [up_ne _ _ _ (by decide)]; exact F5 120 (by decide))
      have G8 : (up m5 119 21 (whyC (iDeed a d (ty.2.2 t i)).1)) 128 = m 128 := by rw [up_ne _ _ _ (by decide)]; exact F5 128 (by decide)
      have Gc : CrA (up m5 119 21 (whyC (iDeed a d (ty.2.2 t i)).1)) d := CrA.fr hc (by rw [up_ne _ _ _ (by decide)]; exact F5 120 (by decide))
      have G21 : (up m5 119 21 (whyC (iDeed a d (ty.2.2 t i)).1)) 119 21 = whyC (iDeed a d (ty.2.2 t i)).1 := up_at _ _ _ _
      generalize up m5 119 21 (whyC (iDeed a d (ty.2.2 t i)).1) = m6 at G1 G2 G8 Gc G21 ⊢
      refine ⟨fun c => ⟨x.2, ?_⟩, fun c => ?_⟩
      · obtain ⟨r1, r2, r3⟩ := deed_rng c
        rw [r1] at c
        rw [(hy t ht).2.2 i (by omega), r2]
        refine c_does ha hd hbd (hl.fr ha (fun k hk => by rw [G2 k (by omega), F2 k (by omega)])) Gc r3 c (fun m8 E1 E2 E8 Ec => ?_)
        rw [nI_1]
        refine ih (i + 1) _ m8 (by omega) (okD_deed ha hd (ty.2.2 t i)) ((Fp.trans G1).trans E1.w) ((F2.trans G2).trans E2) (by rw [E8, G8, F8]) (by rw [r1]; exact Ec) ?_ ?_
        · rw [E1.2.2.2.2.1, G21, r1]; exact c
        · rw [hG2]; simp only [runD]; rw [if_pos (by rw [r1]; exact c)]
      · have e : G = (i, whyC (iDeed a d (ty.2.2 t i)).1, d) := by rw [hG2]; simp only [runD]; rw [if_neg c]
        rw [e] at hq
        exact hq m6 (Fp.trans G1) (F2.trans G2) (by rw [G8, F8]) Gc G21
  refine key (ty.2.1 t) 0 d _ (by omega) hd (FRw.u119 mi 0 (by decide)) (F120.of (up_ne _ _ _ (by decide))) (up_ne _ _ _ (by decide)) (CrA.fr hc (up_ne _ _ _ (by decide))) (up_at _ _ _ _) hG.symm
