/-! ===== deeds of the reference: the rest ===== -/
theorem c_whyLeave {l : Launch} {h : Nat} {mi : TMi} {ml : TMl} {z : Nat} {x : Int32} {a : Ln} {d : Dt} {Q : Int32 → TMi → TMl → Nat → Prop} (ha : okLn a) (hd : okD a d) (hl : LnR (mi 120) a) (hc : CrA mi d)
    (hq : Q (whyC (iOut a d x).1) mi ml z) : CI l (h + 3) m_R_whyLeave [.ref 119, .long x.toInt64] mi ml z Q := by
  have hB6 := ha.1
  have hR4 := ha.2.1
  unfold iOut at hq
  refine t_R_whyLeave mi ml z _ (c_R_isBeck hl.1 hB6 ?_)
  rw [t64]
  refine ⟨fun c => ?_, fun c => ?_⟩
  · rw [bI_0, Bool.not_eq_false, decide_eq_true_eq] at c
    rw [if_pos c] at hq
    rw [t64_32]
    obtain ⟨ex, hb⟩ := inB_nI (a := a) c
    generalize x.toInt.toNat = b at ex hb hq
    subst ex
    rw [addL_cl 29 b (by omega), cr_in hc (by omega)]
    unfold dOut at hq
    refine ⟨in_addL (a := 29) (by omega) (by decide), ?_⟩
    cases e : dW d b with
    | none =>
      rw [e] at hq
      dsimp only at hq
      rw [why12] at hq
      exact ⟨fun q => absurd rfl q, fun _ => hq⟩
    | some r =>
      rw [e] at hq
      have := (hd.1 b r e).2
      dsimp only at hq
      rw [why_nI (by omega)] at hq
      exact ⟨fun _ => hq, fun q => absurd q (neg1_ne (by omega))⟩
  · rw [bI_0, decide_eq_false_iff_not] at c
    rw [if_neg c] at hq
    dsimp only at hq
    rw [why11] at hq
    exact hq
theorem gi_cl {b r : Nat} (hb : b < 6) (hr : r < 4) : ((45 + 6 * nI r) + nI b).toNatClampNeg = 45 + 6 * r + b := by
  rw [show (6 : Int32) * nI r = nI (6 * r) from mulL 6 r, show (45 : Int32) + nI (6 * r) = nI (45 + 6 * r) from addL 45 (6 * r), nI_add, nI_clamp (by omega)]
theorem gi_in {b r : Nat} (hb : b < 6) (hr : r < 4) : vp_in ((45 + 6 * nI r) + nI b) 4113 := by
  rw [show (6 : Int32) * nI r = nI (6 * r) from mulL 6 r, show (45 : Int32) + nI (6 * r) = nI (45 + 6 * r) from addL 45 (6 * r), nI_add]
  exact vp_in_nI (by omega) (by decide)
theorem c1_64 : (1 : Int64).toInt = 1 := by decide
theorem c9_64 : (9 : Int64).toInt = 9 := by decide
theorem c0_64 : (0 : Int64).toInt = 0 := by decide
theorem c_whySend {l : Launch} {h : Nat} {mi : TMi} {ml : TMl} {z : Nat} {x y n : Int32} {a : Ln} {d : Dt} {Q : Int32 → TMi → TMl → Nat → Prop} (ha : okLn a) (hd : okD a d) (hl : LnR (mi 120) a) (hc : CrA mi d)
    (hq : Q (whyC (iGive a d y x n).1) mi ml z) : CI l (h + 3) m_R_whySend [.ref 119, .long y.toInt64, .long x.toInt64, .long n.toInt64] mi ml z Q := by
  have hB6 := ha.1
  have hR4 := ha.2.1
  unfold iGive at hq
  refine t_R_whySend mi ml z _ _ _ (c_R_isRiver hl.2.1 hR4 ?_)
  rw [t64]
  have no : ¬ (inB a x ∧ inR a y ∧ 1 ≤ n.toInt ∧ n.toInt ≤ 9) → Q 1 mi ml z := fun q => by
    rw [if_neg q] at hq
    dsimp only at hq
    rw [why11] at hq
    exact hq
  refine ⟨fun c => ?_, fun c => c_R_isBeck hl.1 hB6 ?_⟩
  · rw [bI_0, decide_eq_false_iff_not] at c
    exact no (fun q => c q.2.1)
  · rw [t64]
    refine ⟨fun c2 => ?_, fun c2 => c_R_within ?_⟩
    · rw [bI_0, decide_eq_false_iff_not] at c2
      exact no (fun q => c2 q.1)
    · rw [t64, c1_64, c9_64]
      refine ⟨fun c3 => ?_, fun c3 => ?_⟩
      · rw [bI_0, Bool.not_eq_false, decide_eq_true_eq] at c c2 c3
        rw [if_pos ⟨c2, c, c3⟩] at hq
        rw [t64_32, t64_32]
        have hn := nI_toNat (x := n) (by omega)
        have hn9 : n.toInt.toNat ≤ 9 := by omega
        obtain ⟨ex, hb⟩ := inB_nI (a := a) c2
        obtain ⟨ey, hr⟩ := inR_nI (a := a) c
        generalize x.toInt.toNat = b at ex hb hq
        generalize y.toInt.toNat = r at ey hr hq
        generalize n.toInt.toNat = k at hn hn9 hq
        subst ex ey hn
        have hg9 := hd.2.2.2.1 b r
        refine t_R_giftAt _ _ _ _ _ ⟨gi_in (by omega) (by omega), ?_⟩
        rw [gi_cl (by omega) (by omega), cr_gf hc (by omega) (by omega), lc_le, Int64.le_iff_toInt_le, l_add, c9_64, nI_toInt (by omega), nI_toInt (by omega)]
        unfold dGive at hq
        refine ⟨fun c4 => ?_, fun c4 => ?_⟩
        · rw [if_pos (by omega)] at hq
          dsimp only at hq
          rw [why_nI (by omega)] at hq
          exact hq
        · rw [if_neg (by omega)] at hq
          dsimp only at hq
          rw [why12] at hq
          exact hq
      · rw [bI_0, decide_eq_false_iff_not] at c3
        exact no (fun q => c3 q.2.2)
theorem v_eq {v : Int64} (h0 : 0 ≤ v.toInt) (h : v.toInt ≤ 499) : v = (nI v.toInt.toNat).toInt64 := Int64.toInt_inj.mp (by rw [t64, nI_toInt (by omega)]; omega)
theorem one64 : ∀ n, n < 500 → (a_reml (nI n).toInt64 100) / 10 = (nI (n / 10 % 10)).toInt64 := by decide +kernel
theorem oth64 : ∀ n, n < 500 → a_reml (nI n).toInt64 10 = (nI (n % 10)).toInt64 := by decide +kernel
theorem one32 : ∀ n, n < 500 → (a_rem (nI n) 100) / 10 = nI (n / 10 % 10) := by decide +kernel
theorem w64 (k : Nat) (hk : k < 500) : (OfNat.ofNat k : Int64).toInt = k := by
  have : ∀ k, k < 500 → (OfNat.ofNat k : Int64).toInt = k := by decide +kernel
  exact this k hk
theorem c_whyNotR {l : Launch} {h : Nat} {mi : TMi} {ml : TMl} {z : Nat} {v : Int64} {a : Ln} {d : Dt} {Q : Int32 → TMi → TMl → Nat → Prop} (ha : okLn a) (hd : okD a d) (hbd : bdLn a) (hl : LnR (mi 120) a) (hc : CrA mi d)
    (hq : ∀ mi', Fr [124, 125, 126, 127] mi mi' → Q (whyC (iDeed a d v).1) mi' ml z) : CI l (h + 5) m_R_whyNot [.ref 119, .long v] mi ml z Q := by
  have hB6 := ha.1
  have hR4 := ha.2.1
  have q11 : iDeed a d v = (-11, d) → Q 1 mi ml z := fun e => by
    rw [e] at hq
    dsimp only at hq
    rw [why11] at hq
    exact hq mi (Fr.refl _ _)
  have rng : ∀ {x y : Int}, decide (x ≤ v.toInt ∧ v.toInt ≤ y) = true → 0 ≤ x → y ≤ 499 → iDeed a d v = iDeedN a d v.toInt.toNat ∧ v = (nI v.toInt.toNat).toInt64 ∧ v.toInt.toNat < 500 := fun e hx hy => by
    rw [decide_eq_true_eq] at e
    exact ⟨if_pos ⟨by omega, by omega⟩, v_eq (by omega) (by omega), by omega⟩
  refine t_R_whyNot mi ml z _ (c_R_within ?_)
  rw [show (0 : Int64).toInt = 0 by decide, show (99 : Int64).toInt = 99 by decide]
  refine ⟨fun c1 => c_R_within ?_, fun c1 => ?_⟩
  · rw [show (100 : Int64).toInt = 100 by decide, show (109 : Int64).toInt = 109 by decide]
    refine ⟨fun c2 => c_R_within ?_, fun c2 => ?_⟩
    · rw [show (200 : Int64).toInt = 200 by decide, show (299 : Int64).toInt = 299 by decide]
      refine ⟨fun c3 => c_R_within ?_, fun c3 => ?_⟩
      · rw [show (300 : Int64).toInt = 300 by decide, show (399 : Int64).toInt = 399 by decide]
        refine ⟨fun c4 => c_R_within ?_, fun c4 => ?_⟩
        · rw [show (400 : Int64).toInt = 400 by decide, show (499 : Int64).toInt = 499 by decide]
          refine ⟨fun c5 => ?_, fun c5 => ?_⟩
          · rw [bI_0, decide_eq_false_iff_not] at c1 c2 c3 c4 c5
            apply q11
            unfold iDeed
            by_cases e : 0 ≤ v.toInt ∧ v.toInt ≤ 499
            · rw [if_pos e]
              unfold iDeedN
              rw [show v.toInt.toNat / 100 = 1 by omega]
              exact if_neg (by omega)
            · rw [if_neg e]
          · rw [bI_0, Bool.not_eq_false] at c5
            obtain ⟨e1, e2, e3⟩ := rng c5 (by decide) (by decide)
            rw [decide_eq_true_eq] at c5
            unfold iDeedN at e1
            rw [show v.toInt.toNat / 100 = 4 by omega] at e1
            have e1' : iDeed a d v = iWide a d (nI (v.toInt.toNat / 10 % 10)) (nI (v.toInt.toNat % 10)) := e1
            rw [e1'] at hq
            unfold iWide at hq
            rw [e2, one64 _ e3, oth64 _ e3]
            refine c_R_isRiver hl.2.1 hR4 ?_
            rw [t64]
            refine ⟨fun c6 => ?_, fun c6 => ?_⟩
            · rw [bI_0, decide_eq_false_iff_not] at c6
              rw [if_neg (fun q => c6 q.1)] at hq
              dsimp only at hq
              rw [why11] at hq
              exact hq mi (Fr.refl _ _)
            · rw [bI_0, Bool.not_eq_false, decide_eq_true_eq] at c6
              have em : (nI (v.toInt.toNat % 10)).toInt = ((v.toInt.toNat % 10 : Nat) : Int) := nI_toInt (by omega)
              rw [lc_gt, Int64.lt_iff_toInt_lt, t64, show (6 : Int64).toInt = 6 by decide, em]
              rw [em] at hq
              refine ⟨fun c7 => ?_, fun c7 => ?_⟩
              · rw [if_neg (by omega)] at hq
                dsimp only at hq
                rw [why11] at hq
                exact hq mi (Fr.refl _ _)
              · rw [if_pos ⟨c6, by omega, by omega⟩] at hq
                unfold dWide at hq
                dsimp only at hq
                have hps : ∀ (T : Nat → Nat → Int) (B r n k : Nat) (wo : Nat → Option Nat), (psh T B r n k wo).1 ≤ k := by
                  intro T B r n k
                  induction k with
                  | zero => intro wo; exact Nat.le_refl _
                  | succ k ih =>
                    intro wo
                    simp only [psh]
                    split
                    · split
                      · exact Nat.zero_le _
                      · have := ih (fun i => if i = ‹Nat› then none else wo i)
                        dsimp only
                        exact Nat.succ_le_succ (ih _)
                    · exact Nat.zero_le _
                rw [why_nI (Nat.lt_of_le_of_lt (hps _ _ _ _ _ _) (by decide))] at hq
                exact hq mi (Fr.refl _ _)
        · rw [bI_0, Bool.not_eq_false] at c4
          obtain ⟨e1, e2, e3⟩ := rng c4 (by decide) (by decide)
          rw [decide_eq_true_eq] at c4
          unfold iDeedN at e1
          rw [show v.toInt.toNat / 100 = 3 by omega] at e1
          have e1' : iDeed a d v = iPour a d (nI (v.toInt.toNat / 10 % 10)) (nI (v.toInt.toNat % 10)) := e1
          rw [e1'] at hq
          unfold iPour at hq
          rw [e2, one64 _ e3]
          refine c_R_isBeck hl.1 hB6 ?_
          rw [t64]
          have em : (nI (v.toInt.toNat % 10)).toInt = ((v.toInt.toNat % 10 : Nat) : Int) := nI_toInt (by omega)
          rw [em] at hq
          refine ⟨fun c6 => ?_, fun c6 => ?_⟩
          · rw [bI_0, decide_eq_false_iff_not] at c6
            rw [if_neg (fun q => c6 q.1)] at hq
            dsimp only at hq
            rw [why11] at hq
            exact hq mi (Fr.refl _ _)
          · rw [bI_0, Bool.not_eq_false, decide_eq_true_eq] at c6
            rw [if_pos ⟨c6, by omega, by omega⟩] at hq
            dsimp only at hq
            have := (hd.2.1 (nI (v.toInt.toNat / 10 % 10)).toInt.toNat).1
            rw [why_nI (by omega)] at hq
            exact hq mi (Fr.refl _ _)
      · rw [bI_0, Bool.not_eq_false] at c3
        obtain ⟨e1, e2, e3⟩ := rng c3 (by decide) (by decide)
        rw [decide_eq_true_eq] at c3
        unfold iDeedN at e1
        rw [show v.toInt.toNat / 100 = 2 by omega] at e1
        have e1' : iDeed a d v = iGive a d (nI (v.toInt.toNat / 10 % 10)) (nI (v.toInt.toNat % 10)) 1 := e1
        rw [e1'] at hq
        rw [e2, one64 _ e3, oth64 _ e3, show (1 : Int64) = (1 : Int32).toInt64 by decide]
        exact c_whySend ha hd hl hc (hq mi (Fr.refl _ _))
    · rw [bI_0, Bool.not_eq_false] at c2
      obtain ⟨e1, e2, e3⟩ := rng c2 (by decide) (by decide)
      rw [decide_eq_true_eq] at c2
      unfold iDeedN at e1
      rw [show v.toInt.toNat / 100 = 1 by omega] at e1
      have e1' : iDeed a d v = iOut a d (nI (v.toInt.toNat % 10)) := e1.trans (if_pos (by omega))
      rw [e1'] at hq
      rw [e2, oth64 _ e3]
      exact c_whyLeave ha hd hl hc (hq mi (Fr.refl _ _))
  · rw [bI_0, Bool.not_eq_false] at c1
    obtain ⟨e1, e2, e3⟩ := rng c1 (by decide) (by decide)
    rw [decide_eq_true_eq] at c1
    unfold iDeedN at e1
    rw [show v.toInt.toNat / 100 = 0 by omega] at e1
    have e1' : iDeed a d v = iInto a d (nI (v.toInt.toNat / 10 % 10)) (nI (v.toInt.toNat % 10)) := e1
    rw [e1'] at hq
    rw [e2, one64 _ e3, oth64 _ e3]
    exact c_whyDeclare ha hd hbd hl hc hq
