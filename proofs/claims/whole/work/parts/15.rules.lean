/-! ===== rules as the walks use them ===== -/
section EVT
variable {l : Launch} {d : Nat} {M Mj : AMt} {pc : Nat} {L S : List Value} {mi : TMi} {ml : TMl} {z : Nat} {Q : Option Value → ASt → Prop}
theorem w_iald {n len k : Nat} {i : Int32} (ho : SH[n]? = some (.inr (0, len))) (hi : vp_in i len) (hk : i.toNatClampNeg = k) (hd : decode M.2.1 pc = .ok (.iaload, 1)) (kk : Ev l d M (pc + 1) (L, .int (mi n k) :: S, st mi ml z) Q) : Ev l d M pc (L, .int i :: .ref n :: S, st mi ml z) Q := by
  subst hk
  exact m_iald ho hi hd kk
theorem w_bald {n len k : Nat} {i : Int32} (ho : SH[n]? = some (.inr (1, len))) (hi : vp_in i len) (hk : i.toNatClampNeg = k) (hd : decode M.2.1 pc = .ok (.baload, 1)) (kk : Ev l d M (pc + 1) (L, .int (mi n k) :: S, st mi ml z) Q) : Ev l d M pc (L, .int i :: .ref n :: S, st mi ml z) Q := by
  subst hk
  exact m_bald ho hi hd kk
theorem w_zald {n len k : Nat} {i : Int32} (ho : SH[n]? = some (.inr (2, len))) (hi : vp_in i len) (hk : i.toNatClampNeg = k) (hd : decode M.2.1 pc = .ok (.baload, 1)) (kk : Ev l d M (pc + 1) (L, .int (mi n k) :: S, st mi ml z) Q) : Ev l d M pc (L, .int i :: .ref n :: S, st mi ml z) Q := by
  subst hk
  exact m_zald ho hi hd kk
theorem w_lald {n len k : Nat} {i : Int32} (ho : SH[n]? = some (.inr (3, len))) (hi : vp_in i len) (hk : i.toNatClampNeg = k) (hd : decode M.2.1 pc = .ok (.laload, 1)) (kk : Ev l d M (pc + 1) (L, .long (ml n k) :: S, st mi ml z) Q) : Ev l d M pc (L, .int i :: .ref n :: S, st mi ml z) Q := by
  subst hk
  exact m_lald ho hi hd kk
theorem w_iast {n len k : Nat} {i x : Int32} (ho : SH[n]? = some (.inr (0, len))) (hi : vp_in i len) (hk : i.toNatClampNeg = k) (hd : decode M.2.1 pc = .ok (.iastore, 1)) (kk : Ev l d M (pc + 1) (L, S, st (up mi n k x) ml z) Q) : Ev l d M pc (L, .int x :: .int i :: .ref n :: S, st mi ml z) Q := by
  subst hk
  exact m_iast ho hi hd kk
theorem w_bast {n len k : Nat} {i x : Int32} (ho : SH[n]? = some (.inr (1, len))) (hi : vp_in i len) (hk : i.toNatClampNeg = k) (hd : decode M.2.1 pc = .ok (.bastore, 1)) (kk : Ev l d M (pc + 1) (L, S, st (up mi n k (vp_nar .byte x)) ml z) Q) : Ev l d M pc (L, .int x :: .int i :: .ref n :: S, st mi ml z) Q := by
  subst hk
  exact m_bast ho hi hd kk
theorem w_zast {n len k : Nat} {i x : Int32} (ho : SH[n]? = some (.inr (2, len))) (hi : vp_in i len) (hk : i.toNatClampNeg = k) (hd : decode M.2.1 pc = .ok (.bastore, 1)) (kk : Ev l d M (pc + 1) (L, S, st (up mi n k (vp_nar .boolean x)) ml z) Q) : Ev l d M pc (L, .int x :: .int i :: .ref n :: S, st mi ml z) Q := by
  subst hk
  exact m_zast ho hi hd kk
theorem w_last {n len k : Nat} {i : Int32} {x : Int64} (ho : SH[n]? = some (.inr (3, len))) (hi : vp_in i len) (hk : i.toNatClampNeg = k) (hd : decode M.2.1 pc = .ok (.lastore, 1)) (kk : Ev l d M (pc + 1) (L, S, st mi (upL ml n k x) z) Q) : Ev l d M pc (L, .long x :: .int i :: .ref n :: S, st mi ml z) Q := by
  subst hk
  exact m_last ho hi hd kk
theorem w_aald {n kd len k y : Nat} {i : Int32} (hkd : 4 ≤ kd ∧ kd ≤ 6) (ho : SH[n]? = some (.inr (kd, len))) (hi : vp_in i len) (hk : i.toNatClampNeg = k) (hy : MR z n k = y) (hz : 0 < y ∧ y < 1000) (hd : decode M.2.1 pc = .ok (.aaload, 1)) (kk : Ev l d M (pc + 1) (L, .ref y :: S, st mi ml z) Q) : Ev l d M pc (L, .int i :: .ref n :: S, st mi ml z) Q := by
  subst hk
  subst hy
  exact m_aald hkd ho hi hz hd kk
theorem MR_scene (z y : Nat) : upR (MR z) 60 1 y = MR y := by
  funext a k
  unfold upR
  split
  · rename_i e
    subst e
    unfold va_up
    split
    · rename_i e2
      subst e2
      rfl
    · match k with
      | 0 => rfl
      | 1 => contradiction
      | k + 2 => rfl
  · rename_i e
    unfold MR MRt
    match a with
    | 60 => contradiction
    | a => 
      congr 1
      rcases Nat.lt_or_ge a 137 with h | h
      · have : ∀ a, a < 137 → a ≠ 60 → ∀ z y, (MRt z).getD a [] = (MRt y).getD a [] := by
          intro a ha hne z y
          have hl : a = 60 ∨ a < 60 ∨ (61 ≤ a ∧ a < 137) := by omega
          rcases hl with h | h | h
          · exact absurd h hne
          · have e1 : (MRt z).take 60 = (MRt y).take 60 := rfl
            rw [List.getD_eq_getElem?_getD, List.getD_eq_getElem?_getD, ← List.getElem?_take_of_lt h, e1, List.getElem?_take_of_lt h]
          · have e1 : (MRt z).drop 61 = (MRt y).drop 61 := rfl
            obtain ⟨j, rfl⟩ : ∃ j, a = 61 + j := ⟨a - 61, by omega⟩
            rw [List.getD_eq_getElem?_getD, List.getD_eq_getElem?_getD, ← List.getElem?_drop, e1, List.getElem?_drop]
        exact this a h e z y
      · have e1 : ∀ z, (MRt z).length = 137 := fun _ => rfl
        show (MRt z).getD a [] = (MRt y).getD a []
        rw [List.getD_eq_getElem?_getD, List.getD_eq_getElem?_getD, List.getElem?_eq_none (by rw [e1]; exact h), List.getElem?_eq_none (by rw [e1]; exact h)]
theorem w_putScene {idx y : Nat} (hf : a_FL M.1.cls idx 7 1) (hy : 0 < y ∧ y < 137) (hd : decode M.2.1 pc = .ok (.putfield idx, 3)) (kk : Ev l d M (pc + 3) (L, S, st mi ml y) Q) : Ev l d M pc (L, .ref y :: .ref 60 :: S, st mi ml z) Q := by
  refine ev_putR (ci := 7) (k := 1) hf rfl (fun _ _ _ h => by cases h; exact Or.inl rfl) (σ := st mi ml z) sh60 ⟨hy.1, by omega⟩ hy.2 hd ?_
  show Ev l d M (pc + 3) (L, S, (SH, mi, ml, upR (MR z) 60 1 y, 0, 0)) Q
  rw [MR_scene]
  exact kk
theorem w_mmax {x y : Int32} {idx : Nat} (hw : Cond.methodLink M.1.cls idx m_JM_max.1 ∈ a_tbl) (hrs : (S.map fun v => v.category).sum ≤ 8) (hd : decode M.2.1 pc = .ok (.invokestatic idx, 3)) (kk : Ev l (d + 1) M (pc + 3) (L, .int (if x < y then y else x) :: S, st mi ml z) Q) : Ev l (d + 1) M pc (L, .int y :: .int x :: S, st mi ml z) Q := by
  intro p e R s m args below meth c D ad ac A H locs cells slots ls Z hF hG hX hW h1 h2 h3 h4 hl hret
  have hts := hF.2.2.2.2.2.2.2
  have hc := a_cats ad S
  dsimp only [aBc, aBs, st] at h3 h4
  exact va_mmax hF.1 hF.2.1 (by rw [hF.2.2.1]; exact hl.1.symm) hF.2.2.2.1 (hts _ hw) (hts _ (by decide +kernel)) (hts _ (by decide +kernel)) (hts _ (by decide +kernel)) (by omega) (by rw [hc]; omega) (by omega) (by omega) hd (kk p e R s m args below meth c D ad ac A H locs cells slots ls Z hF hG hX hW h1 h2 h3 h4 hl hret)
theorem w_mmin {x y : Int32} {idx : Nat} (hw : Cond.methodLink M.1.cls idx m_JM_min.1 ∈ a_tbl) (hrs : (S.map fun v => v.category).sum ≤ 8) (hd : decode M.2.1 pc = .ok (.invokestatic idx, 3)) (kk : Ev l (d + 1) M (pc + 3) (L, .int (if x > y then y else x) :: S, st mi ml z) Q) : Ev l (d + 1) M pc (L, .int y :: .int x :: S, st mi ml z) Q := by
  intro p e R s m args below meth c D ad ac A H locs cells slots ls Z hF hG hX hW h1 h2 h3 h4 hl hret
  have hts := hF.2.2.2.2.2.2.2
  have hc := a_cats ad S
  dsimp only [aBc, aBs, st] at h3 h4
  exact va_mmin hF.1 hF.2.1 (by rw [hF.2.2.1]; exact hl.1.symm) hF.2.2.2.1 (hts _ hw) (hts _ (by decide +kernel)) (hts _ (by decide +kernel)) (hts _ (by decide +kernel)) (by omega) (by rw [hc]; omega) (by omega) (by omega) hd (kk p e R s m args below meth c D ad ac A H locs cells slots ls Z hF hG hX hW h1 h2 h3 h4 hl hret)
theorem w_tableIn {dflt lo hi : Int} {offs : Array Int} {len : Nat} {x c : Int32} {off : Int} {tgt : Nat} (hd : decode M.2.1 pc = .ok (.tableswitch dflt lo hi offs, len)) (hx : x = c) (h1 : ¬ c.toInt < lo) (h2 : ¬ hi < c.toInt) (ho : offs[(c.toInt - lo).toNat]? = some off) (ht : (pc : Int) + off = (tgt : Int)) (k : Ev l d M tgt (L, S, st mi ml z) Q) : Ev l d M pc (L, .int x :: S, st mi ml z) Q := by
  subst hx
  exact ev_tableIn hd h1 h2 ho ht k
theorem sw_out {x : Int32} (lo hi : Int) (cs : List Int32) (hcs : ∀ k : Nat, k < (hi - lo + 1).toNat → Int32.ofInt (lo + k) ∈ cs) (h : ∀ c ∈ cs, x ≠ c) : x.toInt < lo ∨ hi < x.toInt := by
  rcases Int.lt_or_le x.toInt lo with h1 | h1
  · exact Or.inl h1
  · rcases Int.lt_or_le hi x.toInt with h2 | h2
    · exact Or.inr h2
    · exfalso
      have := hcs (x.toInt - lo).toNat (by omega)
      have e : lo + ((x.toInt - lo).toNat : Int) = x.toInt := by omega
      rw [e, Int32.ofInt_toInt] at this
      exact h _ this rfl
theorem w_tableOut {dflt lo hi : Int} {offs : Array Int} {len : Nat} {x : Int32} {tgt : Nat} (cs : List Int32) (hd : decode M.2.1 pc = .ok (.tableswitch dflt lo hi offs, len)) (hcs : ∀ k : Nat, k < (hi - lo + 1).toNat → Int32.ofInt (lo + k) ∈ cs) (h : ∀ c ∈ cs, x ≠ c) (ht : (pc : Int) + dflt = (tgt : Int)) (k : Ev l d M tgt (L, S, st mi ml z) Q) : Ev l d M pc (L, .int x :: S, st mi ml z) Q :=
  ev_tableOut hd (sw_out lo hi cs hcs h) ht k
def cpF (mi : TMi) (n0 n1 sp dp n : Nat) : TMi := upF mi n1 (va_cpy (mi n0) (mi n1) sp dp n)
theorem w_copy {n0 n1 l0 l1 idx : Nat} {sp dp n : Int32} {ks kd kn : Nat} (hw : Cond.methodLink M.1.cls idx arraycopyName ∈ a_tbl) (ha0 : SH[n0]? = some (.inr (0, l0))) (ha1 : SH[n1]? = some (.inr (0, l1))) (h1 : sp.toNatClampNeg = ks) (h2 : dp.toNatClampNeg = kd) (h3 : n.toNatClampNeg = kn) (hc : ¬ sp < 0 ∧ ¬ dp < 0 ∧ ¬ n < 0 ∧ ks + kn ≤ l0 ∧ kd + kn ≤ l1) (hrs : (S.map fun v => v.category).sum ≤ 8) (hd : decode M.2.1 pc = .ok (.invokestatic idx, 3))
    (kk : Ev l (d + 1) M (pc + 3) (L, S, st (cpF mi n0 n1 ks kd kn) ml z) Q) : Ev l (d + 1) M pc (L, .int n :: .int dp :: .ref n1 :: .int sp :: .ref n0 :: S, st mi ml z) Q := by
  subst h1; subst h2; subst h3
  exact m_copy hw ha0 ha1 hc hrs hd kk
end EVT
