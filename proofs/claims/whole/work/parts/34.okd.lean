/-! ===== deeds keep what a scene keeps; doing them in the reference ===== -/
theorem cnt_mono {p q : Nat → Bool} : ∀ {n : Nat}, (∀ b, b < n → p b = true → q b = true) → cnt p n ≤ cnt q n
  | 0, _ => Nat.le_refl _
  | n + 1, h => by
    have ih := cnt_mono (n := n) (fun b hb => h b (Nat.lt_succ_of_lt hb))
    have h1 := h n (Nat.lt_succ_self n)
    simp only [cnt]
    by_cases e : p n = true
    · rw [if_pos e, if_pos (h1 e)]; omega
    · rw [if_neg e]; split <;> omega
theorem psh_sub {T : Nat → Nat → Int} {B r n : Nat} : ∀ {k : Nat} {wo : Nat → Option Nat} {b r' : Nat}, (psh T B r n k wo).2.2 b = some r' → wo b = some r'
  | 0, wo, b, r', h => h
  | k + 1, wo, b, r', h => by
    simp only [psh] at h
    split at h
    · split at h
      · exact h
      · dsimp only at h
        have := psh_sub h
        split at this
        · cases this
        · exact this
    · exact h
theorem psh_cnt {T : Nat → Nat → Int} {B r n : Nat} : ∀ {k : Nat} {wo : Nat → Option Nat}, cnt (inn wo r) B ≤ k → cnt (inn (psh T B r n k wo).2.2 r) B ≤ n
  | 0, wo, h => by simp only [psh]; omega
  | k + 1, wo, h => by
    simp only [psh]
    by_cases c : n < cnt (inn wo r) B
    · rw [if_pos c]
      obtain ⟨m, hm⟩ := lst_some (p := inn wo r) (f := fun b => prO T b r) (B := B) (by omega)
      rw [hm]
      dsimp only
      have h1 := lst_lt hm
      have hcl := cnt_clr (p := inn wo r) h1.1 h1.2
      rw [inn_clr] at hcl
      exact psh_cnt (by omega)
    · rw [if_neg c]
      dsimp only
      omega
theorem okD_of {a : Ln} {d : Dt} (h : okV a d) (hc : ∀ r, r < nR a → cnt (inn (dW d) r) (nB a) ≤ dR d r) : okD a d := ⟨h.1, h.2.1, h.2.2.1, h.2.2.2, hc⟩
theorem inn_set {wo : Nat → Option Nat} {b r r' : Nat} (h : r' ≠ r) {x : Nat} (e : inn (fun i => if i = b then some r else wo i) r' x = true) : inn wo r' x = true := by
  simp only [inn, beq_iff_eq] at e ⊢
  split at e
  · exact absurd (Option.some.inj e) (Ne.symm h)
  · exact e
theorem inn_no {wo : Nat → Option Nat} {m r' : Nat} {x : Nat} (e : inn (fun i => if i = m then none else wo i) r' x = true) : inn wo r' x = true := by
  simp only [inn, beq_iff_eq] at e ⊢
  split at e
  · cases e
  · exact e
theorem okD_out {a : Ln} {d : Dt} (hd : okD a d) (b : Nat) : okD a (setW d b none) := okD_of (okV_setW hd.v (fun r e => by cases e)) (fun r hr => Nat.le_trans (cnt_mono (fun x _ e => inn_no (wo := dW d) e)) (hd.2.2.2.2 r hr))
theorem okD_in {a : Ln} {d : Dt} (hd : okD a d) {b r : Nat} (hb : b < nB a) (hr : r < nR a) (h1 : ¬ dW d b = some r) (h2 : cnt (inn (dW d) r) (nB a) < dR d r) : okD a (setW d b (some r)) := okD_of (okV_setW hd.v (fun r e => by cases e; exact ⟨hb, hr⟩)) (fun r' hr' => by
  by_cases e : r' = r
  · subst e
    have : cnt (inn (dW (setW d b (some r'))) r') (nB a) = _ := cnt_add (wo := dW d) hb h1
    rw [this]
    exact h2
  · exact Nat.le_trans (cnt_mono (fun x _ e' => inn_set (wo := dW d) e e')) (hd.2.2.2.2 r' hr'))
theorem okD_into {a : Ln} {d : Dt} (hd : okD a d) {b r : Nat} (hb : b < nB a) (hr : r < nR a) : okD a (dInto a d b r).2 := by
  unfold dInto
  by_cases h1 : dW d b = some r
  · rw [if_pos h1]; exact hd
  rw [if_neg h1]
  by_cases h2 : wdO (lkD a d) (tkD a d) b r = false
  · rw [if_pos h2]; exact hd
  rw [if_neg h2]
  by_cases h3 : adm (nB a) (tkD a d) (dR d) (dW d) b r = false
  · rw [if_pos h3]; exact hd
  rw [if_neg h3]
  by_cases h4 : cnt (inn (dW d) r) (nB a) < dR d r
  · rw [if_pos h4]; exact okD_in hd hb hr h1 h4
  rw [if_neg h4]
  have h3' : adm (nB a) (tkD a d) (dR d) (dW d) b r = true := by simpa using h3
  unfold adm at h3'
  rw [decide_eq_false h4, Bool.false_or] at h3'
  cases e : lst (inn (dW d) r) (fun b' => prO (tkD a d) b' r) (nB a) with
  | none => rw [e] at h3'; cases h3'
  | some m =>
    dsimp only
    have hm := lst_lt e
    refine okD_in (okD_out hd m) hb hr ?_ ?_
    · intro q
      have : (if b = m then none else dW d b) = some r := q
      split at this
      · cases this
      · exact h1 this
    · have hcl := cnt_clr (p := inn (dW d) r) hm.1 hm.2
      rw [inn_clr] at hcl
      have hcr := hd.2.2.2.2 r hr
      show cnt (inn (fun i => if i = m then none else dW d i) r) (nB a) < dR d r
      omega
theorem okD_iInto {a : Ln} {d : Dt} (hd : okD a d) (x y : Int32) : okD a (iInto a d x y).2 := by
  unfold iInto
  split
  · rename_i h
    exact okD_into hd (inB_nI h.1).2 (inR_nI h.2).2
  · exact hd
theorem okD_iOut {a : Ln} {d : Dt} (hd : okD a d) (x : Int32) : okD a (iOut a d x).2 := by
  unfold iOut
  split
  · unfold dOut
    split
    · exact hd
    · exact okD_out hd _
  · exact hd
theorem okD_iGive {a : Ln} {d : Dt} (hd : okD a d) (y x n : Int32) : okD a (iGive a d y x n).2 := by
  unfold iGive
  split
  · unfold dGive
    split
    · rename_i h
      exact okD_of (okV_setG hd.v h) hd.2.2.2.2
    · exact hd
  · exact hd
theorem okD_iPour {a : Ln} {d : Dt} (hd : okD a d) (x n : Int32) : okD a (iPour a d x n).2 := by
  unfold iPour
  split
  · rename_i h
    exact okD_of (okV_setF hd.v (inB_nI h.1).2 (by omega)) hd.2.2.2.2
  · exact hd
theorem okD_iWide {a : Ln} {d : Dt} (ha : okLn a) (hd : okD a d) (y n : Int32) : okD a (iWide a d y n).2 := by
  unfold iWide
  split
  · rename_i h
    have hr := (inR_nI h.1).2
    have hv := okV_setR hd.v hr (show n.toInt.toNat ≤ 6 by omega)
    generalize y.toInt.toNat = r at hr hv
    generalize n.toInt.toNat = k at hv
    unfold dWide
    dsimp only
    refine okD_of ⟨fun b r' e => hd.1 b r' (psh_sub e), hv.2⟩ (fun r' hr' => ?_)
    by_cases e : r' = r
    · subst e
      have h1 : cnt (inn (psh (tkD a d) (nB a) r' k 6 (dW d)).2.2 r') (nB a) ≤ k := psh_cnt (by have := cnt_le (inn (dW d) r') (nB a); have := ha.1; omega)
      have h2 : dR (setR d r' k) r' = k := by simp [dR, setR]
      show _ ≤ dR (setR d r' k) r'
      rw [h2]
      exact h1
    · have h2 : dR (setR d r k) r' = dR d r' := by simp [dR, setR, e]
      show _ ≤ dR (setR d r k) r'
      rw [h2]
      refine Nat.le_trans (cnt_mono (q := inn (dW d) r') (fun x _ e' => ?_)) (hd.2.2.2.2 r' hr')
      simp only [inn, beq_iff_eq] at e' ⊢
      exact psh_sub e'
  · exact hd
theorem okD_deed {a : Ln} {d : Dt} (ha : okLn a) (hd : okD a d) (v : Int64) : okD a (iDeed a d v).2 := by
  unfold iDeed
  split
  · unfold iDeedN
    split
    · exact okD_iInto hd _ _
    · split
      · exact okD_iOut hd _
      · exact hd
    · exact okD_iGive hd _ _ _
    · exact okD_iPour hd _ _
    · exact okD_iWide ha hd _ _
  · exact hd
theorem pass_into {a : Ln} {d : Dt} {x y : Int32} (h : whyC (iInto a d x y).1 = 0) : (inB a x ∧ inR a y) ∧ ¬ dW d x.toInt.toNat = some y.toInt.toNat ∧ wdO (lkD a d) (tkD a d) x.toInt.toNat y.toInt.toNat = true ∧ adm (nB a) (tkD a d) (dR d) (dW d) x.toInt.toNat y.toInt.toNat = true := by
  unfold iInto at h
  by_cases c : inB a x ∧ inR a y
  · rw [if_pos c] at h
    refine ⟨c, ?_⟩
    unfold dInto at h
    by_cases h1 : dW d x.toInt.toNat = some y.toInt.toNat
    · rw [if_pos h1] at h; dsimp only at h; rw [why12] at h; exact absurd h (by decide)
    rw [if_neg h1] at h
    by_cases h2 : wdO (lkD a d) (tkD a d) x.toInt.toNat y.toInt.toNat = false
    · rw [if_pos h2] at h; dsimp only at h; rw [why13] at h; exact absurd h (by decide)
    rw [if_neg h2] at h
    by_cases h3 : adm (nB a) (tkD a d) (dR d) (dW d) x.toInt.toNat y.toInt.toNat = false
    · rw [if_pos h3] at h; dsimp only at h; rw [why14] at h; exact absurd h (by decide)
    exact ⟨h1, by simpa using h2, by simpa using h3⟩
  · rw [if_neg c] at h; dsimp only at h; rw [why11] at h; exact absurd h (by decide)
theorem inB_k {a : Ln} {k : Nat} (hk : k < 10) : inB a (nI k) ↔ k < nB a := by
  unfold inB; rw [nI_toInt (by omega)]; omega
theorem inR_k {a : Ln} {k : Nat} (hk : k < 10) : inR a (nI k) ↔ k < nR a := by
  unfold inR; rw [nI_toInt (by omega)]; omega
theorem tn_k {k : Nat} (hk : k < 10) : (nI k).toInt.toNat = k := by rw [nI_toInt (by omega)]; omega
theorem rem10' : ∀ n, n < 500 → a_rem (nI n) 10 = nI (n % 10) := rem10
theorem dN0 {a : Ln} {d : Dt} {n : Nat} (h : n / 100 = 0) : iDeedN a d n = iInto a d (nI (n / 10 % 10)) (nI (n % 10)) := by unfold iDeedN; rw [h]; rfl
theorem dN1 {a : Ln} {d : Dt} {n : Nat} (h : n / 100 = 1) : iDeedN a d n = if n / 10 % 10 = 0 then iOut a d (nI (n % 10)) else (-11, d) := by unfold iDeedN; rw [h]; rfl
theorem dN2 {a : Ln} {d : Dt} {n : Nat} (h : n / 100 = 2) : iDeedN a d n = iGive a d (nI (n / 10 % 10)) (nI (n % 10)) 1 := by unfold iDeedN; rw [h]; rfl
theorem dN3 {a : Ln} {d : Dt} {n : Nat} (h : n / 100 = 3) : iDeedN a d n = iPour a d (nI (n / 10 % 10)) (nI (n % 10)) := by unfold iDeedN; rw [h]; rfl
theorem dN4 {a : Ln} {d : Dt} {n : Nat} (h : n / 100 = 4) : iDeedN a d n = iWide a d (nI (n / 10 % 10)) (nI (n % 10)) := by unfold iDeedN; rw [h]; rfl
theorem c_does {l : Launch} {h : Nat} {mi : TMi} {ml : TMl} {z : Nat} {n : Nat} {a : Ln} {d : Dt} {Q : TMi → TMl → Nat → Prop} (ha : okLn a) (hd : okD a d) (hbd : bdLn a) (hl : LnR (mi 120) a) (hc : CrA mi d) (hn : n < 500) (hok : whyC (iDeedN a d n).1 = 0)
    (hq : ∀ mi', FRp mi mi' → F120 mi mi' → mi' 128 = mi 128 → CrA mi' (iDeedN a d n).2 → Q mi' ml z) : CV l (h + 6) m_R_does [.ref 119, .int (nI n)] mi ml z Q := by
  have hB6 := ha.1
  have hR4 := ha.2.1
  have h10 : n % 10 < 10 := Nat.mod_lt _ (by decide)
  have h1010 : n / 10 % 10 < 10 := Nat.mod_lt _ (by decide)
  have le : ∀ k : Nat, k < 500 → ((OfNat.ofNat k : Int32) ≤ nI n ↔ k ≤ n) := fun k hk => leL (by omega) (by omega)
  refine t_R_does mi ml z _ ?_
  rw [one32 n hn, rem10 n hn]
  refine ⟨fun c1 => ⟨fun c2 => ⟨fun c3 => ⟨fun c4 => ?_, fun c4 => ?_⟩, fun c3 => ?_⟩, fun c2 => ?_⟩, fun c1 => ?_⟩
  · have c4' := (le 400 (by decide)).mp c4
    rw [dN4 (by omega)] at hok hq
    have hp : inR a (nI (n / 10 % 10)) ∧ 0 ≤ (nI (n % 10)).toInt ∧ (nI (n % 10)).toInt ≤ 6 := by
      by_cases q : inR a (nI (n / 10 % 10)) ∧ 0 ≤ (nI (n % 10)).toInt ∧ (nI (n % 10)).toInt ≤ 6
      · exact q
      · unfold iWide at hok
        rw [if_neg q] at hok; dsimp only at hok; rw [why11] at hok; exact absurd hok (by decide)
    unfold iWide at hq
    rw [if_pos hp, tn_k h10, tn_k h1010] at hq
    rw [inR_k h1010, nI_toInt (by omega)] at hp
    generalize n / 10 % 10 = r at hp h1010 hq
    generalize n % 10 = k at hp h10 hq
    have hk6 : k ≤ 6 := by omega
    have hr := hp.1
    refine ⟨in_addL (a := 41) (by omega) (by decide), ?_⟩
    rw [addL_cl 41 r (by omega)]
    have hc1 : CrA (up mi 120 (41 + r) (nI k)) (setR d r k) := by
      rw [show 41 + r = 29 + (12 + r) by omega]
      exact CrA.up (d := d) (Cr.sR hc (by omega) k)
    have F1 : FRp mi (up mi 120 (41 + r) (nI k)) := FRp.u _ _ _ (by decide)
    have F2 : F120 mi (up mi 120 (41 + r) (nI k)) := by rw [show 41 + r = 29 + (12 + r) by omega]; exact F120.u _ _ (by omega)
    have F8 : (up mi 120 (41 + r) (nI k)) 128 = mi 128 := up_ne _ _ _ (by decide)
    generalize up mi 120 (41 + r) (nI k) = m1 at hc1 F1 F2 F8 ⊢
    have e2 : dR (setR d r k) r = k := by simp [dR, setR]
    refine c_pushes (fu := 6) ha (okV_setR hd.v hr hk6) hbd (hl.fr ha (fun k hk => F2 k (by omega))) hc1 hr (by have := cnt_le (inn (dW (setR d r k)) r) (nB a); omega) (fun m2 G1 G2 G8 G3 G4 => hq m2 (F1.trans G1) (F2.trans G2) (by rw [G8, F8]) ?_)
    rw [e2] at G3
    exact G3
  · have c3' := (le 300 (by decide)).mp c3
    have c4' : ¬ 400 ≤ n := fun q => c4 ((le 400 (by decide)).mpr q)
    rw [dN3 (by omega)] at hok hq
    have hp : inB a (nI (n / 10 % 10)) ∧ 0 ≤ (nI (n % 10)).toInt ∧ (nI (n % 10)).toInt ≤ 9 := by
      by_cases q : inB a (nI (n / 10 % 10)) ∧ 0 ≤ (nI (n % 10)).toInt ∧ (nI (n % 10)).toInt ≤ 9
      · exact q
      · unfold iPour at hok
        rw [if_neg q] at hok; dsimp only at hok; rw [why11] at hok; exact absurd hok (by decide)
    unfold iPour at hq
    rw [if_pos hp, tn_k h10, tn_k h1010] at hq
    rw [inB_k h1010] at hp
    generalize n / 10 % 10 = b at hp h1010 hq
    generalize n % 10 = k at h10 hq
    have hb := hp.1
    refine ⟨in_addL (a := 35) (by omega) (by decide), ?_⟩
    rw [addL_cl 35 b (by omega)]
    refine hq _ (FRp.u _ _ _ (by decide)) ?_ (up_ne _ _ _ (by decide)) ?_
    · rw [show 35 + b = 29 + (6 + b) by omega]; exact F120.u _ _ (by omega)
    · rw [show 35 + b = 29 + (6 + b) by omega]; exact CrA.up (d := d) (Cr.sF hc (by omega) k)
  · have c2' := (le 200 (by decide)).mp c2
    have c3' : ¬ 300 ≤ n := fun q => c3 ((le 300 (by decide)).mpr q)
    rw [dN2 (by omega)] at hok hq
    have hp : inB a (nI (n % 10)) ∧ inR a (nI (n / 10 % 10)) ∧ 1 ≤ (1 : Int32).toInt ∧ (1 : Int32).toInt ≤ 9 := by
      by_cases q : inB a (nI (n % 10)) ∧ inR a (nI (n / 10 % 10)) ∧ 1 ≤ (1 : Int32).toInt ∧ (1 : Int32).toInt ≤ 9
      · exact q
      · unfold iGive at hok
        rw [if_neg q] at hok; dsimp only at hok; rw [why11] at hok; exact absurd hok (by decide)
    unfold iGive at hq hok
    rw [if_pos hp, tn_k h10, tn_k h1010, show (1 : Int32).toInt.toNat = 1 by decide] at hq hok
    rw [inB_k h10, inR_k h1010] at hp
    generalize n / 10 % 10 = r at hp h1010 hq hok
    generalize n % 10 = b at hp h10 hq hok
    have hb := hp.1
    have hr := hp.2.1
    unfold dGive at hq hok
    have h9 : dG d b r + 1 ≤ 9 := by
      by_cases q : dG d b r + 1 ≤ 9
      · exact q
      · rw [if_neg q] at hok; dsimp only at hok; rw [why12] at hok; exact absurd hok (by decide)
    rw [if_pos h9] at hq
    refine t_R_giftAt _ _ _ _ _ ⟨gi_in (by omega) (by omega), gi_in (by omega) (by omega), ?_⟩
    rw [gi_cl (by omega) (by omega), cr_gf hc (by omega) (by omega), nI_1]
    refine hq _ (FRp.u _ _ _ (by decide)) ?_ (up_ne _ _ _ (by decide)) ?_
    · rw [show 45 + 6 * r + b = 29 + (16 + (6 * r + b)) by omega]; exact F120.u _ _ (by omega)
    · rw [show 45 + 6 * r + b = 29 + (16 + (6 * r + b)) by omega]; exact CrA.up (d := d) (Cr.sG hc (by omega) (by omega) _)
  · have c1' := (le 100 (by decide)).mp c1
    have c2' : ¬ 200 ≤ n := fun q => c2 ((le 200 (by decide)).mpr q)
    rw [dN1 (by omega)] at hok hq
    by_cases q : n / 10 % 10 = 0
    · rw [if_pos q] at hok hq
      have hp : inB a (nI (n % 10)) := by
        by_cases q : inB a (nI (n % 10))
        · exact q
        · unfold iOut at hok
          rw [if_neg q] at hok; dsimp only at hok; rw [why11] at hok; exact absurd hok (by decide)
      unfold iOut at hq hok
      rw [if_pos hp, tn_k h10] at hq hok
      rw [inB_k h10] at hp
      generalize n % 10 = b at hp h10 hq hok
      unfold dOut at hq hok
      refine ⟨in_addL (a := 29) (by omega) (by decide), ?_⟩
      rw [addL_cl 29 b (by omega)]
      cases e : dW d b with
      | none => rw [e] at hok; dsimp only at hok; rw [why12] at hok; exact absurd hok (by decide)
      | some r =>
        rw [e] at hq
        refine hq _ (FRp.u _ _ _ (by decide)) (F120.u _ _ (by omega)) (up_ne _ _ _ (by decide)) ?_
        exact CrA.up (d := d) (Cr.sW hc (by omega) none)
    · rw [if_neg q] at hok; dsimp only at hok; rw [why11] at hok; exact absurd hok (by decide)
  · have c1' : ¬ 100 ≤ n := fun q => c1 ((le 100 (by decide)).mpr q)
    rw [dN0 (by omega)] at hok hq
    obtain ⟨hp, h1, h2, h3⟩ := pass_into hok
    unfold iInto at hq
    rw [if_pos hp] at hq
    rw [tn_k h10, tn_k h1010] at h1 h2 h3 hq
    rw [inB_k h1010, inR_k h10] at hp
    exact c_declares ha hd hbd hl hc hp.1 hp.2 h1 h2 h3 (fun m F1 F2 F8 G _ => hq m F1 F2 F8 G)
