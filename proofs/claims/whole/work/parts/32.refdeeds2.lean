/-! ===== deeds of the reference: why not, and doing ===== -/
theorem prO_inj {T : Nat → Nat → Int} {b b' r : Nat} (hb : b < 6) (hb' : b' < 6) (h : prO T b r = prO T b' r) : b = b' := by unfold prO at h; omega
theorem cnt_add {wo : Nat → Option Nat} {b r B : Nat} (hb : b < B) (h : ¬ wo b = some r) : cnt (inn (fun i => if i = b then some r else wo i) r) B = cnt (inn wo r) B + 1 := by
  have e := cnt_clr (p := inn (fun i => if i = b then some r else wo i) r) (m := b) hb (by simp [inn])
  have e2 : cnt (fun x => inn (fun i => if i = b then some r else wo i) r x && !decide (x = b)) B = cnt (inn wo r) B := cnt_congr (fun x _ => by
    by_cases q : x = b
    · subst q; simp [inn, h]
    · simp [inn, q])
  omega
theorem into_psh {a : Ln} {d : Dt} {b r fu : Nat} (ha : okLn a) (hd : okD a d) (hb : b < nB a) (hr : r < nR a) (h1 : ¬ dW d b = some r) (h2 : wdO (lkD a d) (tkD a d) b r = true) (h3 : adm (nB a) (tkD a d) (dR d) (dW d) b r = true) (hfu : cnt (inn (dW d) r) (nB a) + 1 ≤ fu) :
    dWs (setW d b (some r)) (psh (tkD a d) (nB a) r (dR d r) fu (fun i => if i = b then some r else dW d i)).2.2 = (dInto a d b r).2 ∧ oI (psh (tkD a d) (nB a) r (dR d r) fu (fun i => if i = b then some r else dW d i)).2.1 = (dInto a d b r).1 := by
  have hB6 := ha.1
  have hcr := hd.2.2.2.2 r hr
  have hca := cnt_add (wo := dW d) hb h1
  unfold dInto
  rw [if_neg h1, if_neg (by rw [h2]; decide), if_neg (by rw [h3]; decide)]
  by_cases c : cnt (inn (dW d) r) (nB a) < dR d r
  · rw [if_pos c, psh_done (by omega)]
    exact ⟨rfl, rfl⟩
  · rw [if_neg c]
    unfold adm at h3
    rw [decide_eq_false c, Bool.false_or] at h3
    cases e : lst (inn (dW d) r) (fun b' => prO (tkD a d) b' r) (nB a) with
    | none => rw [e] at h3; cases h3
    | some m =>
      rw [e] at h3
      dsimp only at h3
      have hlt := of_decide_eq_true h3
      have hm := lst_lt e
      have hmin := lst_min e
      have hmb : ¬ m = b := fun q => by
        subst q
        have := hm.2
        simp only [inn, beq_iff_eq] at this
        exact h1 this
      obtain ⟨k, rfl⟩ : ∃ k, fu = k + 1 := ⟨fu - 1, by omega⟩
      obtain ⟨q, hq⟩ := lst_some (p := inn (fun i => if i = b then some r else dW d i) r) (f := fun b' => prO (tkD a d) b' r) (B := nB a) (by omega)
      have hq1 := lst_lt hq
      have hq2 := lst_min hq m hm.1 (by
        have := hm.2
        simp only [inn] at this ⊢
        rw [if_neg hmb]; exact this)
      have eq : q = m := by
        by_cases qb : q = b
        · subst qb; omega
        · have hqi : inn (dW d) r q = true := by
            have := hq1.2
            simp only [inn] at this ⊢
            rw [if_neg qb] at this; exact this
          have := hmin q hq1.1 hqi
          exact prO_inj (by omega) (by omega) (by omega : prO (tkD a d) q r = prO (tkD a d) m r)
      subst eq
      simp only [psh, hq]
      rw [if_pos (by omega)]
      have hcl := cnt_clr hq1.1 hq1.2
      rw [inn_clr] at hcl
      rw [psh_done (by omega)]
      refine ⟨?_, rfl⟩
      unfold dWs setW
      dsimp only
      congr 1
      funext i
      by_cases i1 : i = q
      · subst i1; simp [hmb]
      · simp [i1, dW]
theorem okV_setW {a : Ln} {d : Dt} (h : okV a d) {b : Nat} {x : Option Nat} (hx : ∀ r, x = some r → b < nB a ∧ r < nR a) : okV a (setW d b x) := ⟨fun b' r' e => by
  by_cases q : b' = b
  · subst q
    simp [dW, setW] at e
    exact hx r' e
  · simp [dW, setW, q] at e
    exact h.1 b' r' e, h.2⟩
theorem c_declares {l : Launch} {h : Nat} {mi : TMi} {ml : TMl} {z : Nat} {b r : Nat} {a : Ln} {d : Dt} {Q : TMi → TMl → Nat → Prop} (ha : okLn a) (hd : okD a d) (hbd : bdLn a) (hl : LnR (mi 120) a) (hc : CrA mi d) (hb : b < nB a) (hr : r < nR a) (h1 : ¬ dW d b = some r) (h2 : wdO (lkD a d) (tkD a d) b r = true) (h3 : adm (nB a) (tkD a d) (dR d) (dW d) b r = true)
    (hq : ∀ mi', FRp mi mi' → F120 mi mi' → mi' 128 = mi 128 → CrA mi' (dInto a d b r).2 → mi' 119 20 = (dInto a d b r).1 → Q mi' ml z) : CV l (h + 5) m_R_declares [.ref 119, .int (nI b), .int (nI r)] mi ml z Q := by
  have hB6 := ha.1
  have hR4 := ha.2.1
  refine t_R_declares mi ml z _ _ ⟨in_addL (a := 29) (by omega) (by decide), ?_⟩
  rw [addL_cl 29 b (by omega)]
  have hc1 : CrA (up mi 120 (29 + b) (nI r)) (setW d b (some r)) := CrA.up (d := d) (Cr.sW hc (by omega) (some r))
  have F1 : FRp mi (up mi 120 (29 + b) (nI r)) := FRp.u _ _ _ (by decide)
  have F2 : F120 mi (up mi 120 (29 + b) (nI r)) := F120.u _ _ (by omega)
  have F8 : (up mi 120 (29 + b) (nI r)) 128 = mi 128 := up_ne _ _ _ (by decide)
  generalize up mi 120 (29 + b) (nI r) = m1 at hc1 F1 F2 F8 ⊢
  have hip := into_psh (fu := cnt (inn (dW d) r) (nB a) + 1) ha hd hb hr h1 h2 h3 (Nat.le_refl _)
  have hcc : cnt (inn (dW (setW d b (some r))) r) (nB a) ≤ cnt (inn (dW d) r) (nB a) + 1 := Nat.le_of_eq (cnt_add (wo := dW d) hb h1)
  refine c_pushes ha (okV_setW hd.v (fun r' e => by cases e; exact ⟨hb, hr⟩)) hbd (hl.fr ha (fun k hk => F2 k (by omega))) hc1 hr hcc (fun m2 G1 G2 G8 G3 G4 => hq m2 (F1.trans G1) (F2.trans G2) (by rw [G8, F8]) ?_ ?_)
  · rw [← hip.1]; exact G3
  · rw [← hip.2]; exact G4
theorem okV_setF {a : Ln} {d : Dt} (h : okV a d) {b x : Nat} (hb : b < nB a) (hx : x ≤ 9) : okV a (setF d b x) := ⟨h.1, fun i => by
  have := h.2.1 i
  unfold dF setF
  dsimp only
  by_cases q : i = b
  · rw [if_pos q]; exact ⟨hx, fun q2 => by omega⟩
  · rw [if_neg q]; exact this, h.2.2⟩
theorem okV_setR {a : Ln} {d : Dt} (h : okV a d) {r x : Nat} (hr : r < nR a) (hx : x ≤ 6) : okV a (setR d r x) := ⟨h.1, h.2.1, fun i => by
  have := h.2.2.1 i
  unfold dR setR
  dsimp only
  by_cases q : i = r
  · rw [if_pos q]; exact ⟨hx, fun q2 => by omega⟩
  · rw [if_neg q]; exact this, h.2.2.2⟩
theorem okV_setG {a : Ln} {d : Dt} (h : okV a d) {b r x : Nat} (hx : x ≤ 9) : okV a (setG d b r x) := ⟨h.1, h.2.1, h.2.2.1, fun i j => by
  have := h.2.2.2 i j
  unfold dG setG
  dsimp only
  by_cases q : i = b ∧ j = r
  · rw [if_pos q]; exact hx
  · rw [if_neg q]; exact this⟩
theorem why11 : whyC (-11) = 1 := by decide
theorem why12 : whyC (-12) = 2 := by decide
theorem why13 : whyC (-13) = 3 := by decide
theorem why14 : whyC (-14) = 4 := by decide
theorem whym1 : whyC (-1) = 0 := by decide
theorem why_nI {n : Nat} (h : n < 2 ^ 31) : whyC (nI n) = 0 := by
  unfold whyC
  rw [if_pos (by
    rw [Int32.le_iff_toInt_le, nI_toInt h, show (-1 : Int32).toInt = -1 by decide]
    omega)]
theorem c_whyDeclare {l : Launch} {h : Nat} {mi : TMi} {ml : TMl} {z : Nat} {x y : Int32} {a : Ln} {d : Dt} {Q : Int32 → TMi → TMl → Nat → Prop} (ha : okLn a) (hd : okD a d) (hbd : bdLn a) (hl : LnR (mi 120) a) (hc : CrA mi d)
    (hq : ∀ mi', Fr [124, 125, 126, 127] mi mi' → Q (whyC (iInto a d x y).1) mi' ml z) : CI l (h + 4) m_R_whyDeclare [.ref 119, .long x.toInt64, .long y.toInt64] mi ml z Q := by
  have hB6 := ha.1
  have hR4 := ha.2.1
  have hw := Cr.isW hc ha hd
  unfold iInto at hq
  refine t_R_whyDeclare mi ml z _ _ (c_R_isBeck hl.1 hB6 ?_)
  rw [t64]
  refine ⟨fun c => ?_, fun c => c_R_isRiver hl.2.1 hR4 ?_⟩
  · rw [bI_0, decide_eq_false_iff_not] at c
    rw [if_neg (fun q => c q.1)] at hq
    dsimp only at hq
    rw [why11] at hq
    exact hq mi (Fr.refl _ _)
  · rw [t64]
    rw [bI_0, Bool.not_eq_false, decide_eq_true_eq] at c
    refine ⟨fun c2 => ?_, fun c2 => ?_⟩
    · rw [bI_0, Bool.not_eq_false, decide_eq_true_eq] at c2
      rw [if_pos ⟨c, c2⟩] at hq
      rw [t64_32, t64_32]
      obtain ⟨ex, hb⟩ := inB_nI (a := a) c
      obtain ⟨ey, hr⟩ := inR_nI (a := a) c2
      generalize x.toInt.toNat = b at ex hb hq
      generalize y.toInt.toNat = r at ey hr hq
      subst ex ey
      have h1 := isW_eq hw hR4 (show r < 4 by omega) hb
      unfold dInto at hq
      rw [addL_cl 29 b (by omega)]
      refine ⟨in_addL (a := 29) (by omega) (by decide), fun c3 => c_laysLikes ha hd.v hl hc (fun m F hLT => ?_), fun c3 => ?_⟩
      · have e1 : ¬ dW d b = some r := fun q => by
          rw [q] at h1; apply c3; simpa using h1
        rw [if_neg e1] at hq
        have hB : m 120 1 = nI (nB a) := by rw [F 120 (by decide)]; exact hl.1
        have hcm : CrA m d := CrA.fr hc (F 120 (by decide))
        have hwm := Cr.isW hcm ha hd
        refine c_R_wouldBoth (by omega) (by omega) ?_
        rw [wdO_congr (hLT b r hb hr)]
        refine ⟨fun c4 => ?_, fun c4 => ?_⟩
        · rw [bI_0, Bool.not_eq_false] at c4
          rw [if_neg (by rw [c4]; decide)] at hq
          have had : adm (nB a) (Lk m 127) (dR d) (dW d) b r = adm (nB a) (tkD a d) (dR d) (dW d) b r := adm_congr hb (fun b' hb' => (hLT b' r hb' hr).2)
          rw [← had] at hq
          refine c_R_becksIn hB hB6 ?_
          rw [isW_enc hwm hR4 (show r < 4 by omega)]
          have h64 : enc (fun b => dW d b == some r) (nB a) < 64 := enc_64 (inn (dW d) r) hB6
          have h64' : enc (inn (dW d) r) (nB a) < 64 := h64
          refine c_R_bitsOf h64 ⟨in_addL (a := 41) (by omega) (by decide), ?_⟩
          have hcn : pop6 (enc (fun b => dW d b == some r) (nB a)) = cnt (inn (dW d) r) (nB a) := pop_enc (inn (dW d) r) hB6
          have hcl := cnt_le (inn (dW d) r) (nB a)
          have hrm := cr_rm hcm (show r < 4 by omega)
          have hrm6 := (hd.2.2.1 r).1
          rw [addL_cl 41 r (by omega), hrm, hcn, nI_leI (by omega) (by omega)]
          have yes : adm (nB a) (Lk m 127) (dR d) (dW d) b r = true → Q 0 m ml z := fun q => by
            rw [if_neg (by rw [q]; decide)] at hq
            by_cases c6 : cnt (inn (dW d) r) (nB a) < dR d r
            · rw [if_pos c6] at hq
              dsimp only at hq
              rw [whym1] at hq
              exact hq m F
            · rw [if_neg c6] at hq
              cases e : lst (inn (dW d) r) (fun b' => prO (tkD a d) b' r) (nB a) with
              | none =>
                rw [e] at hq
                dsimp only at hq
                rw [whym1] at hq
                exact hq m F
              | some mm =>
                rw [e] at hq
                have := (lst_lt e).1
                dsimp only at hq
                rw [why_nI (by omega)] at hq
                exact hq m F
          have no : adm (nB a) (Lk m 127) (dR d) (dW d) b r = false → Q 4 m ml z := fun q => by
            rw [if_pos q] at hq
            dsimp only at hq
            rw [why14] at hq
            exact hq m F
          unfold adm at yes no
          refine ⟨fun c6 => ⟨fun c7 => ?_, fun c7 => c_R_leastOf hB hB6 hR4 (hLT.b7 ha hd.v hbd) hr h64 ?_⟩, fun c6 => yes (by rw [decide_eq_true (by omega), Bool.true_or])⟩
          · have hz : enc (inn (dW d) r) (nB a) = 0 := nI_inj (b := 0) (by omega) (by decide) c7
            cases e : lst (inn (dW d) r) (fun b' => prO (Lk m 127) b' r) (nB a) with
            | none => exact no (by rw [e, decide_eq_false (by omega)]; rfl)
            | some m' => exact absurd hz (nz_of_lst e)
          · have el : lst (fun b' => tb (enc (fun b => dW d b == some r) (nB a)) b') (fun b' => prO (Lk m 127) b' r) (nB a) = lst (inn (dW d) r) (fun b' => prO (Lk m 127) b' r) (nB a) := lst_enc (inn (dW d) r) _ (nB a)
            rw [el]
            cases e : lst (inn (dW d) r) (fun b' => prO (Lk m 127) b' r) (nB a) with
            | none =>
              exfalso; apply c7
              have : enc (inn (dW d) r) (nB a) = 0 := enc_zero.mpr (fun b hb => lst_none e b hb)
              show nI (enc (inn (dW d) r) (nB a)) = 0
              rw [this]; rfl
            | some q =>
              rw [e] at yes no
              rw [decide_eq_false (by omega), Bool.false_or] at yes no
              dsimp only at yes no
              have hq' := (lst_lt e).1
              refine c_R_takesMore hB6 hR4 (hLT.b7 ha hd.v hbd) hb hq' hr ⟨fun c8 => ?_, fun c8 => ?_⟩
              · rw [bI_0, Bool.not_eq_false] at c8; exact yes c8
              · rw [bI_0] at c8; exact no c8
        · rw [bI_0] at c4
          rw [if_pos c4] at hq
          dsimp only at hq
          rw [why13] at hq
          exact hq m F
      · have e1 : dW d b = some r := by rw [c3] at h1; simpa using h1
        rw [if_pos e1] at hq
        dsimp only at hq
        rw [why12] at hq
        exact hq mi (Fr.refl _ _)
    · rw [bI_0, decide_eq_false_iff_not] at c2
      rw [if_neg (fun q => c2 q.2)] at hq
      dsimp only at hq
      rw [why11] at hq
      exact hq mi (Fr.refl _ _)
