/-! ===== beck, river, likes, takes, gifts, holds ===== -/
def bekA (a : Ln) (d : Dt) (x v : Int32) : Int32 := if inB a x then (if v = 0 then oI (dW d x.toInt.toNat) else if v = 1 then nI (dF d x.toInt.toNat) else if v = 2 then nI (nM a x.toInt.toNat) else if v = 3 then nI (nD a x.toInt.toNat) else if v = 4 then nI (enc (fun r => wdO (lkD a d) (tkD a d) x.toInt.toNat r) (nR a)) else -2) else -2
theorem c_B_beck {l : Launch} {h : Nat} {mi : TMi} {ml : TMl} {z : Nat} {a : Ln} {d : Dt} {x v : Int32} {Q : Int32 → TMi → TMl → Nat → Prop} (hA : CA mi a d) (hq : Q (bekA a d x v) mi ml z) : CI l (h + 2) m_B_beck [.ref 1, .int x, .int v] mi ml z Q := by
  have ha := hA.1
  have hB6 := ha.1
  have hR4 := ha.2.1
  unfold bekA at hq
  refine t_B_beck mi ml z _ _ (c_hasBeck hA.2.2.1.1 hB6 ⟨fun c => ?_, fun c => ?_⟩)
  · rw [bI_0, Bool.not_eq_false, decide_eq_true_eq] at c
    rw [if_pos c] at hq
    obtain ⟨ex, hb⟩ := inB_nI (a := a) c
    generalize x.toInt.toNat = b at ex hb hq
    rw [ex]
    have hin : vp_in (nI b) 6 := in_nI (by omega) (by decide)
    refine ⟨fun q => ?_, fun q => ?_, fun q => ⟨hin, ?_⟩, fun q => ⟨hin, ?_⟩, fun q => ⟨hin, ?_⟩, fun q0 q1 q2 q3 q4 => ?_⟩
    · rw [if_pos q] at hq
      refine t_Sc_whereOf_17 _ _ _ _ ⟨in_nI (by omega) (by decide), ?_⟩
      rw [cl_nI (by omega), hA.2.2.2.1.1 b (by omega)]; exact hq
    · subst q
      rw [if_neg (by decide), if_pos rfl] at hq
      refine t_Sc_flowOf_17 _ _ _ _ ⟨in_addL (a := 6) (by omega) (by decide), ?_⟩
      rw [addL_cl 6 b (by omega), hA.fl b hb]; exact hq
    · subst q
      rw [if_neg (by decide), if_neg (by decide), if_pos rfl] at hq
      rw [cl_nI (by omega), show mi 20 b = nI (nM a b) from hA.2.2.1.2.2.2.1 b hb]; exact hq
    · subst q
      rw [if_neg (by decide), if_neg (by decide), if_neg (by decide), if_pos rfl] at hq
      rw [cl_nI (by omega), show mi 21 b = nI (nD a b) from hA.2.2.1.2.2.2.2.1 b hb]; exact hq
    · subst q
      rw [if_neg (by decide), if_neg (by decide), if_neg (by decide), if_neg (by decide), if_pos rfl] at hq
      rw [cl_nI (by omega), hA.2.2.2.2.mu hb]; exact hq
    · rw [if_neg q0, if_neg q1, if_neg q2, if_neg q3, if_neg q4] at hq
      exact hq
  · rw [bI_0, decide_eq_false_iff_not] at c
    rw [if_neg c] at hq
    exact hq
theorem c_R_beck {l : Launch} {h : Nat} {mi : TMi} {ml : TMl} {z : Nat} {a : Ln} {d : Dt} {x v : Int32} {Q : Int32 → TMi → TMl → Nat → Prop} (hA : RA mi a d) (hq : ∀ mi', FQ mi mi' → Q (bekA a d x v) mi' ml z) : CI l (h + 4) m_R_beck [.ref 119, .int x, .int v] mi ml z Q := by
  have F0 : FQ mi (up mi 119 0 0) := FQ.u119 _ _ (by decide)
  have hA0 := hA.q F0
  have ha := hA.1
  have hB6 := ha.1
  have hR4 := ha.2.1
  unfold bekA at hq
  refine t_R_beck mi ml z _ _ (c_R_isBeck hA0.2.2.2.1.1 hB6 ?_)
  rw [t64]
  refine ⟨fun c => c_laysLikes ha hA.2.1.v hA0.2.2.2.1 hA0.2.2.2.2 (fun m F hl => ?_), fun c => ?_⟩
  · rw [bI_0, Bool.not_eq_false, decide_eq_true_eq] at c
    rw [if_pos c] at hq
    obtain ⟨ex, hb⟩ := inB_nI (a := a) c
    have F1 := F0.trans (FQ.of F (fun n hn => by simp; omega))
    have hA1 := hA.q F1
    have hq := hq m F1
    generalize x.toInt.toNat = b at ex hb hq
    rw [ex]
    refine ⟨fun q => ⟨in_addL (a := 29) (by omega) (by decide), ?_⟩, fun q => ⟨in_addL (a := 35) (by omega) (by decide), ?_⟩, fun q => ⟨in_addL (a := 9) (by omega) (by decide), ?_⟩, fun q => ⟨in_addL (a := 15) (by omega) (by decide), ?_⟩, fun q => c_R_riversOf (by omega) hA1.2.2.2.1.2.1 hR4 ?_, fun q0 q1 q2 q3 q4 => ?_⟩
    · rw [if_pos q] at hq
      rw [addL_cl 29 b (by omega), cr_in hA1.2.2.2.2 (by omega)]; exact hq
    · subst q
      rw [if_neg (by decide), if_pos rfl] at hq
      rw [addL_cl 35 b (by omega), cr_fl hA1.2.2.2.2 (by omega)]; exact hq
    · subst q
      rw [if_neg (by decide), if_neg (by decide), if_pos rfl] at hq
      rw [addL_cl 9 b (by omega), hA1.2.2.2.1.2.2.2.1 b hb]; exact hq
    · subst q
      rw [if_neg (by decide), if_neg (by decide), if_neg (by decide), if_pos rfl] at hq
      rw [addL_cl 15 b (by omega), hA1.2.2.2.1.2.2.2.2.1 b hb]; exact hq
    · subst q
      rw [if_neg (by decide), if_neg (by decide), if_neg (by decide), if_neg (by decide), if_pos rfl] at hq
      rw [enc_congr (q := fun r => wdO (lkD a d) (tkD a d) b r) (fun r hr => wdO_congr (hl b r hb hr))]; exact hq
    · rw [if_neg q0, if_neg q1, if_neg q2, if_neg q3, if_neg q4] at hq
      exact hq
  · rw [bI_0, decide_eq_false_iff_not] at c
    rw [if_neg c] at hq
    exact hq _ F0
def rivA (a : Ln) (d : Dt) (x v : Int32) : Int32 := if inR a x then (if v = 0 then nI (dR d x.toInt.toNat) else if v = 1 then nI (nNm a x.toInt.toNat) else if v = 2 then nI (nBs a x.toInt.toNat) else if v = 3 then nI (enc (inn (dW d) x.toInt.toNat) (nB a)) else if v = 4 then nI (smn (inn (dW d) x.toInt.toNat) (dF d) (nB a)) else if v = 5 then oI (lst (inn (dW d) x.toInt.toNat) (fun b => prO (tkD a d) b x.toInt.toNat) (nB a)) else -2) else -2
theorem c_B_river {l : Launch} {h : Nat} {mi : TMi} {ml : TMl} {z : Nat} {a : Ln} {d : Dt} {x v : Int32} {Q : Int32 → TMi → TMl → Nat → Prop} (hA : CA mi a d) (hq : Q (rivA a d x v) mi ml z) : CI l (h + 3) m_B_river [.ref 1, .int x, .int v] mi ml z Q := by
  have ha := hA.1
  have hB6 := ha.1
  have hR4 := ha.2.1
  unfold rivA at hq
  refine t_B_river mi ml z _ _ (c_hasRiver hA.2.2.1.2.1 hR4 ⟨fun c => ?_, fun c => ?_⟩)
  · rw [bI_0, Bool.not_eq_false, decide_eq_true_eq] at c
    rw [if_pos c] at hq
    obtain ⟨ex, hr⟩ := inR_nI (a := a) c
    generalize x.toInt.toNat = r at ex hr hq
    rw [ex]
    have hin : vp_in (nI r) 4 := in_nI (by omega) (by decide)
    have hiw := hA.2.2.2.1.isW ha hA.2.1
    have een : enc (fun b => mi 27 b == nI r) (nB a) = enc (inn (dW d) r) (nB a) := isW_enc hiw hR4 (show r < 4 by omega)
    refine ⟨fun q => ?_, fun q => ⟨hin, ?_⟩, fun q => ⟨hin, ?_⟩, fun q => c_Sc_becksIn_17 (lw := 40) rfl (by decide) hA.2.2.1.1 hB6 ?_, fun q => c_Sc_becksIn_17 (lw := 40) rfl (by decide) hA.2.2.1.1 hB6 ?_, fun q => c_Sc_becksIn_17 (lw := 40) rfl (by decide) hA.2.2.1.1 hB6 ?_, fun q0 q1 q2 q3 q4 q5 => ?_⟩
    · rw [if_pos q] at hq
      refine t_Sc_roomOf_17 _ _ _ _ ⟨in_addL (a := 12) (by omega) (by decide), ?_⟩
      rw [addL_cl 12 r (by omega), (hA.rm r hr).1]; exact hq
    · subst q
      rw [if_neg (by decide), if_pos rfl] at hq
      rw [cl_nI (by omega), show mi 24 r = nI (nNm a r) from hA.2.2.1.2.2.2.2.2.1 r hr]; exact hq
    · subst q
      rw [if_neg (by decide), if_neg (by decide), if_pos rfl] at hq
      rw [cl_nI (by omega), show mi 25 r = nI (nBs a r) from hA.2.2.1.2.2.2.2.2.2.1 r hr]; exact hq
    · subst q
      rw [if_neg (by decide), if_neg (by decide), if_neg (by decide), if_pos rfl] at hq
      rw [een]; exact hq
    · subst q
      rw [if_neg (by decide), if_neg (by decide), if_neg (by decide), if_neg (by decide), if_pos rfl] at hq
      rw [een]
      refine c_Sc_flowOfSet_17 hA.2.2.1.1 hB6 (enc_64 _ hB6) hA.fl ?_
      rw [smn_enc]; exact hq
    · subst q
      rw [if_neg (by decide), if_neg (by decide), if_neg (by decide), if_neg (by decide), if_neg (by decide), if_pos rfl] at hq
      rw [een]
      refine c_Sc_leastLiked_17 hA.2.2.1.1 hB6 hR4 hA.2.2.2.2 hr (enc_64 _ hB6) ?_
      rw [lst_enc]; exact hq
    · rw [if_neg q0, if_neg q1, if_neg q2, if_neg q3, if_neg q4, if_neg q5] at hq
      exact hq
  · rw [bI_0, decide_eq_false_iff_not] at c
    rw [if_neg c] at hq
    exact hq
theorem c_R_river {l : Launch} {h : Nat} {mi : TMi} {ml : TMl} {z : Nat} {a : Ln} {d : Dt} {x v : Int32} {Q : Int32 → TMi → TMl → Nat → Prop} (hA : RA mi a d) (hq : ∀ mi', FQ mi mi' → Q (rivA a d x v) mi' ml z) : CI l (h + 4) m_R_river [.ref 119, .int x, .int v] mi ml z Q := by
  have F0 : FQ mi (up mi 119 0 0) := FQ.u119 _ _ (by decide)
  have hA0 := hA.q F0
  have ha := hA.1
  have hB6 := ha.1
  have hR4 := ha.2.1
  unfold rivA at hq
  refine t_R_river mi ml z _ _ (c_R_isRiver hA0.2.2.2.1.2.1 hR4 ?_)
  rw [t64]
  refine ⟨fun c => c_laysLikes ha hA.2.1.v hA0.2.2.2.1 hA0.2.2.2.2 (fun m F hl => ?_), fun c => ?_⟩
  · rw [bI_0, Bool.not_eq_false, decide_eq_true_eq] at c
    rw [if_pos c] at hq
    obtain ⟨ex, hr⟩ := inR_nI (a := a) c
    have F1 := F0.trans (FQ.of F (fun n hn => by simp; omega))
    have hA1 := hA.q F1
    have hq := hq m F1
    generalize x.toInt.toNat = r at ex hr hq
    rw [ex]
    have hiw : isW (fun k => m 120 (29 + k)) (nB a) (nR a) (dW d) := hA1.2.2.2.2.isW ha hA.2.1
    have een : enc (fun b => m 120 (29 + b) == nI r) (nB a) = enc (inn (dW d) r) (nB a) := isW_enc hiw hR4 (show r < 4 by omega)
    refine ⟨fun q => ⟨in_addL (a := 41) (by omega) (by decide), ?_⟩, fun q => ⟨in_addL (a := 21) (by omega) (by decide), ?_⟩, fun q => ⟨in_addL (a := 25) (by omega) (by decide), ?_⟩, fun q => c_R_becksIn hA1.2.2.2.1.1 hB6 ?_, fun q => c_R_becksIn hA1.2.2.2.1.1 hB6 ?_, fun q => c_R_becksIn hA1.2.2.2.1.1 hB6 ?_, fun q0 q1 q2 q3 q4 q5 => ?_⟩
    · rw [if_pos q] at hq
      rw [addL_cl 41 r (by omega), cr_rm hA1.2.2.2.2 (by omega)]; exact hq
    · subst q
      rw [if_neg (by decide), if_pos rfl] at hq
      rw [addL_cl 21 r (by omega), hA1.2.2.2.1.2.2.2.2.2.1 r hr]; exact hq
    · subst q
      rw [if_neg (by decide), if_neg (by decide), if_pos rfl] at hq
      rw [addL_cl 25 r (by omega), hA1.2.2.2.1.2.2.2.2.2.2.1 r hr]; exact hq
    · subst q
      rw [if_neg (by decide), if_neg (by decide), if_neg (by decide), if_pos rfl] at hq
      rw [een]; exact hq
    · subst q
      rw [if_neg (by decide), if_neg (by decide), if_neg (by decide), if_neg (by decide), if_pos rfl] at hq
      rw [een]
      refine c_R_flowOf hA1.2.2.2.1.1 hB6 (enc_64 _ hB6) (f := dF d) (fun b hb => cr_fl hA1.2.2.2.2 (by omega)) ?_
      rw [smn_enc]; exact hq
    · subst q
      rw [if_neg (by decide), if_neg (by decide), if_neg (by decide), if_neg (by decide), if_neg (by decide), if_pos rfl] at hq
      rw [een]
      refine c_R_leastOf hA1.2.2.2.1.1 hB6 hR4 (hl.b7 ha hA.2.1.v hA.2.2.1) hr (enc_64 _ hB6) ?_
      rw [lst_enc, lst_lt7 hl hr]; exact hq
    · rw [if_neg q0, if_neg q1, if_neg q2, if_neg q3, if_neg q4, if_neg q5] at hq
      exact hq
  · rw [bI_0, decide_eq_false_iff_not] at c
    rw [if_neg c] at hq
    exact hq _ F0
def likA (a : Ln) (d : Dt) (x y : Int32) : Int32 := if inB a x ∧ inR a y then nL a (W0 a d x.toInt.toNat y.toInt.toNat) else -99000002
def takA (a : Ln) (d : Dt) (y x : Int32) : Int32 := if inB a x ∧ inR a y then nT a (W0 a d x.toInt.toNat y.toInt.toNat) else -99000002
def gifA (a : Ln) (d : Dt) (y x : Int32) : Int32 := if inB a x ∧ inR a y then nI (dG d x.toInt.toNat y.toInt.toNat) else -2
theorem c_B_likes {l : Launch} {h : Nat} {mi : TMi} {ml : TMl} {z : Nat} {a : Ln} {d : Dt} {x y : Int32} {Q : Int32 → TMi → TMl → Nat → Prop} (hA : CA mi a d) (hq : Q (likA a d x y) mi ml z) : CI l (h + 2) m_B_likes [.ref 1, .int x, .int y] mi ml z Q := by
  have ha := hA.1
  have hB6 := ha.1
  have hR4 := ha.2.1
  unfold likA at hq
  refine t_B_likes mi ml z _ _ (c_hasBeck hA.2.2.1.1 hB6 ⟨fun c => ?_, fun c => c_hasRiver hA.2.2.1.2.1 hR4 ⟨fun c2 => ?_, fun c2 => t_B_pair _ _ _ _ _ ?_⟩⟩)
  · rw [bI_0, decide_eq_false_iff_not] at c
    rw [if_neg (fun k => c k.1)] at hq; exact hq
  · rw [bI_0, decide_eq_false_iff_not] at c2
    rw [if_neg (fun k => c2 k.2)] at hq; exact hq
  · rw [bI_0, Bool.not_eq_false, decide_eq_true_eq] at c c2
    rw [if_pos ⟨c, c2⟩] at hq
    obtain ⟨ex, hb⟩ := inB_nI (a := a) c
    obtain ⟨ey, hr⟩ := inR_nI (a := a) c2
    generalize x.toInt.toNat = b at ex hb hq
    generalize y.toInt.toNat = r at ey hr hq
    rw [ex, ey, mul4, cl_nI (by omega)]
    refine ⟨in_nI (by omega) (by decide), ?_⟩
    rw [show mi 28 (4 * b + r) = nL a (W0 a d b r) from Int32.toInt_inj.mp (hA.2.2.2.2.1 b r hb hr trivial).1]
    exact hq
theorem c_B_takes {l : Launch} {h : Nat} {mi : TMi} {ml : TMl} {z : Nat} {a : Ln} {d : Dt} {x y : Int32} {Q : Int32 → TMi → TMl → Nat → Prop} (hA : CA mi a d) (hq : Q (takA a d y x) mi ml z) : CI l (h + 2) m_B_takes [.ref 1, .int y, .int x] mi ml z Q := by
  have ha := hA.1
  have hB6 := ha.1
  have hR4 := ha.2.1
  unfold takA at hq
  refine t_B_takes mi ml z _ _ (c_hasBeck hA.2.2.1.1 hB6 ⟨fun c => ?_, fun c => c_hasRiver hA.2.2.1.2.1 hR4 ⟨fun c2 => ?_, fun c2 => t_B_pair _ _ _ _ _ ?_⟩⟩)
  · rw [bI_0, decide_eq_false_iff_not] at c
    rw [if_neg (fun k => c k.1)] at hq; exact hq
  · rw [bI_0, decide_eq_false_iff_not] at c2
    rw [if_neg (fun k => c2 k.2)] at hq; exact hq
  · rw [bI_0, Bool.not_eq_false, decide_eq_true_eq] at c c2
    rw [if_pos ⟨c, c2⟩] at hq
    obtain ⟨ex, hb⟩ := inB_nI (a := a) c
    obtain ⟨ey, hr⟩ := inR_nI (a := a) c2
    generalize x.toInt.toNat = b at ex hb hq
    generalize y.toInt.toNat = r at ey hr hq
    rw [ex, ey, mul4, cl_nI (by omega)]
    refine ⟨in_nI (by omega) (by decide), ?_⟩
    rw [show mi 29 (4 * b + r) = nT a (W0 a d b r) from Int32.toInt_inj.mp (hA.2.2.2.2.1 b r hb hr trivial).2.1]
    exact hq
theorem c_B_gifts {l : Launch} {h : Nat} {mi : TMi} {ml : TMl} {z : Nat} {a : Ln} {d : Dt} {x y : Int32} {Q : Int32 → TMi → TMl → Nat → Prop} (hA : CA mi a d) (hq : Q (gifA a d y x) mi ml z) : CI l (h + 3) m_B_gifts [.ref 1, .int y, .int x] mi ml z Q := by
  have ha := hA.1
  have hB6 := ha.1
  have hR4 := ha.2.1
  unfold gifA at hq
  refine t_B_gifts mi ml z _ _ (c_hasBeck hA.2.2.1.1 hB6 ⟨fun c => ?_, fun c => c_hasRiver hA.2.2.1.2.1 hR4 ⟨fun c2 => ?_, fun c2 => ?_⟩⟩)
  · rw [bI_0, decide_eq_false_iff_not] at c
    rw [if_neg (fun k => c k.1)] at hq; exact hq
  · rw [bI_0, decide_eq_false_iff_not] at c2
    rw [if_neg (fun k => c2 k.2)] at hq; exact hq
  · rw [bI_0, Bool.not_eq_false, decide_eq_true_eq] at c c2
    rw [if_pos ⟨c, c2⟩] at hq
    obtain ⟨ex, hb⟩ := inB_nI (a := a) c
    obtain ⟨ey, hr⟩ := inR_nI (a := a) c2
    generalize x.toInt.toNat = b at ex hb hq
    generalize y.toInt.toNat = r at ey hr hq
    rw [ex, ey]
    refine t_Sc_giftsOf_17 _ _ _ _ _ (t_B_pair _ _ _ _ _ ?_)
    rw [mul4, addL_cl 16 (4 * b + r) (by omega), hA.2.2.2.1.2.2.2 b r (by omega) (by omega)]
    exact ⟨in_addL (a := 16) (by omega) (by decide), hq⟩
theorem RA.wd {mi : TMi} {a : Ln} {d : Dt} (hA : RA mi a d) {b r : Nat} (hb : b < nB a) (hr : r < nR a) : wdR (mi 120) b r = W0 a d b r := by
  have := hA.1.1
  have := hA.1.2.1
  rw [wdR_wds, cr_fl hA.2.2.2.2 (by omega), hA.2.2.2.1.2.2.2.1 b hb, hA.2.2.2.1.2.2.2.2.2.1 r hr, cr_gf hA.2.2.2.2 (by omega) (by omega)]
  rfl
theorem c_R_likes {l : Launch} {h : Nat} {mi : TMi} {ml : TMl} {z : Nat} {a : Ln} {d : Dt} {x y : Int32} {Q : Int32 → TMi → TMl → Nat → Prop} (hA : RA mi a d) (hq : ∀ mi', FQ mi mi' → Q (likA a d x y) mi' ml z) : CI l (h + 3) m_R_likes [.ref 119, .int x, .int y] mi ml z Q := by
  have F0 : FQ mi (up mi 119 0 0) := FQ.u119 _ _ (by decide)
  have hA0 := hA.q F0
  have ha := hA.1
  have hB6 := ha.1
  have hR4 := ha.2.1
  unfold likA at hq
  refine t_R_likes mi ml z _ _ (c_R_isBeck hA0.2.2.2.1.1 hB6 ?_)
  rw [t64]
  refine ⟨fun c => ?_, fun c => c_R_isRiver hA0.2.2.2.1.2.1 hR4 ?_⟩
  · rw [bI_0, decide_eq_false_iff_not] at c
    rw [if_neg (fun k => c k.1)] at hq; exact hq _ F0
  · rw [t64]
    refine ⟨fun c2 => ?_, fun c2 => ?_⟩
    · rw [bI_0, decide_eq_false_iff_not] at c2
      rw [if_neg (fun k => c2 k.2)] at hq; exact hq _ F0
    · rw [bI_0, Bool.not_eq_false, decide_eq_true_eq] at c c2
      rw [if_pos ⟨c, c2⟩] at hq
      obtain ⟨ex, hb⟩ := inB_nI (a := a) c
      obtain ⟨ey, hr⟩ := inR_nI (a := a) c2
      generalize x.toInt.toNat = b at ex hb hq
      generalize y.toInt.toNat = r at ey hr hq
      rw [ex, ey]
      have ew := hA0.wd hb hr
      refine c_R_reckons (law := 0) (by decide) (by omega) (by omega) (by rw [ew]; exact okW0 ha hA.2.1 hb hr) hA0.2.2.2.1.2.2.2.2.2.2.2.1 (fun m F => ?_)
      rw [ew]
      exact hq m (F0.trans (FQ.of F (fun n hn => by simp; omega)))
theorem c_R_takes {l : Launch} {h : Nat} {mi : TMi} {ml : TMl} {z : Nat} {a : Ln} {d : Dt} {x y : Int32} {Q : Int32 → TMi → TMl → Nat → Prop} (hA : RA mi a d) (hq : ∀ mi', FQ mi mi' → Q (takA a d y x) mi' ml z) : CI l (h + 3) m_R_takes [.ref 119, .int y, .int x] mi ml z Q := by
  have F0 : FQ mi (up mi 119 0 0) := FQ.u119 _ _ (by decide)
  have hA0 := hA.q F0
  have ha := hA.1
  have hB6 := ha.1
  have hR4 := ha.2.1
  unfold takA at hq
  refine t_R_takes mi ml z _ _ (c_R_isBeck hA0.2.2.2.1.1 hB6 ?_)
  rw [t64]
  refine ⟨fun c => ?_, fun c => c_R_isRiver hA0.2.2.2.1.2.1 hR4 ?_⟩
  · rw [bI_0, decide_eq_false_iff_not] at c
    rw [if_neg (fun k => c k.1)] at hq; exact hq _ F0
  · rw [t64]
    refine ⟨fun c2 => ?_, fun c2 => ?_⟩
    · rw [bI_0, decide_eq_false_iff_not] at c2
      rw [if_neg (fun k => c2 k.2)] at hq; exact hq _ F0
    · rw [bI_0, Bool.not_eq_false, decide_eq_true_eq] at c c2
      rw [if_pos ⟨c, c2⟩] at hq
      obtain ⟨ex, hb⟩ := inB_nI (a := a) c
      obtain ⟨ey, hr⟩ := inR_nI (a := a) c2
      generalize x.toInt.toNat = b at ex hb hq
      generalize y.toInt.toNat = r at ey hr hq
      rw [ex, ey]
      have ew := hA0.wd hb hr
      refine c_R_reckons (law := 1) (by decide) (by omega) (by omega) (by rw [ew]; exact okW0 ha hA.2.1 hb hr) hA0.2.2.2.1.2.2.2.2.2.2.2.2 (fun m F => ?_)
      rw [ew]
      exact hq m (F0.trans (FQ.of F (fun n hn => by simp; omega)))
theorem c_R_gifts {l : Launch} {h : Nat} {mi : TMi} {ml : TMl} {z : Nat} {a : Ln} {d : Dt} {x y : Int32} {Q : Int32 → TMi → TMl → Nat → Prop} (hA : RA mi a d) (hq : ∀ mi', FQ mi mi' → Q (gifA a d y x) mi' ml z) : CI l (h + 3) m_R_gifts [.ref 119, .int y, .int x] mi ml z Q := by
  have F0 : FQ mi (up mi 119 0 0) := FQ.u119 _ _ (by decide)
  have hA0 := hA.q F0
  have ha := hA.1
  have hB6 := ha.1
  have hR4 := ha.2.1
  unfold gifA at hq
  refine t_R_gifts mi ml z _ _ (c_R_isBeck hA0.2.2.2.1.1 hB6 ?_)
  rw [t64]
  refine ⟨fun c => ?_, fun c => c_R_isRiver hA0.2.2.2.1.2.1 hR4 ?_⟩
  · rw [bI_0, decide_eq_false_iff_not] at c
    rw [if_neg (fun k => c k.1)] at hq; exact hq _ F0
  · rw [t64]
    refine ⟨fun c2 => ?_, fun c2 => ?_⟩
    · rw [bI_0, decide_eq_false_iff_not] at c2
      rw [if_neg (fun k => c2 k.2)] at hq; exact hq _ F0
    · rw [bI_0, Bool.not_eq_false, decide_eq_true_eq] at c c2
      rw [if_pos ⟨c, c2⟩] at hq
      obtain ⟨ex, hb⟩ := inB_nI (a := a) c
      obtain ⟨ey, hr⟩ := inR_nI (a := a) c2
      generalize x.toInt.toNat = b at ex hb hq
      generalize y.toInt.toNat = r at ey hr hq
      rw [ex, ey]
      refine t_R_giftAt _ _ _ _ _ ?_
      have eat : (45 : Int32) + 6 * nI r + nI b = nI (45 + 6 * r + b) := by
        rw [show (6 : Int32) * nI r = nI (6 * r) from mulL 6 r, addL, nI_add]
      rw [eat, cl_nI (by omega), cr_gf hA0.2.2.2.2 (by omega) (by omega)]
      exact ⟨in_nI (by omega) (by decide), hq _ F0⟩
theorem c_R_laysNow {l : Launch} {h : Nat} {mi : TMi} {ml : TMl} {z : Nat} {a : Ln} {d : Dt} {Q : TMi → TMl → Nat → Prop} (hA : RA mi a d) (hq : ∀ mi', FQ mi mi' → LT mi' a d → isW (mi' 129) (nB a) (nR a) (dW d) → Q mi' ml z) : CV l (h + 4) m_R_laysNow [.ref 119] mi ml z Q := by
  have ha := hA.1
  have hB6 := ha.1
  refine t_R_laysNow mi ml z (c_laysLikes ha hA.2.1.v hA.2.2.2.1 hA.2.2.2.2 (fun m1 F1 hl1 => ?_))
  have F1q : FQ mi m1 := FQ.of F1 (fun n hn => by simp; omega)
  have hA1 := hA.q F1q
  refine loop (P := fun i => ∀ m, Fr [129] m1 m → (∀ b, b < i → m 129 b = oI (dW d b)) → Ev l (h + 4) m_R_laysNow 6 ([.ref 119, .int (nI i)], [], st m ml z) (qV Q)) 6 (fun m F hk => ?_) (fun i hi ih m F hk => ?_) m1 (Fr.refl _ _) (fun b hb => absurd hb (Nat.not_lt_zero _))
  · exact t_R_laysNow_6 m ml z _ ⟨fun _ => hq m (F1q.trans (FQ.of F (fun n hn => by simp; omega))) (hl1.fr (F 126 (by decide)) (F 127 (by decide))) (fun b hb => ⟨hk b (by omega), fun r e => (hA.2.1.1 b r e).2⟩), fun c => absurd (by decide) c⟩
  · refine t_R_laysNow_6 m ml z _ ⟨fun c => absurd c (ge_no (N := 6) rfl (by decide) hi), fun _ => ⟨in_addL (a := 29) (by omega) (by decide), in_nI hi (by decide), ?_⟩⟩
    rw [cl_nI (by omega), addL_cl 29 i (by omega), nI_1, F 120 (by decide), cr_in hA1.2.2.2.2 hi]
    refine ih _ (F.step (Fr_up _ _ _ _)) (fun b hb => ?_)
    by_cases q : b = i
    · subst q; rw [up_at]
    · rw [up_nk _ _ _ q]; exact hk b (by omega)
def hldA (a : Ln) (d : Dt) : Bool := heldS (nB a) (nR a) (lkD a d) (tkD a d) (dR d) (dW d)
theorem c_B_holds {l : Launch} {h : Nat} {mi : TMi} {ml : TMl} {z : Nat} {a : Ln} {d : Dt} {Q : Int32 → TMi → TMl → Nat → Prop} (hA : CA mi a d) (hq : Q (bI (hldA a d)) mi ml z) : CI l (h + 6) m_B_holds [.ref 1] mi ml z Q := by
  have ha := hA.1
  refine t_B_holds mi ml z (c_Sc_isHeld_17 (lw := 40) rfl (by decide) hA.2.2.1.1 ha.1 hA.2.2.1.2.1 ha.2.1 hA.2.2.2.2 (hA.2.2.2.1.isW ha hA.2.1) hA.rm ?_)
  show (bI (hldA a d) = 0 → _) ∧ (¬ bI (hldA a d) = 0 → _)
  cases e : hldA a d
  · rw [e] at hq; exact ⟨fun _ => hq, fun c => absurd rfl c⟩
  · rw [e] at hq; exact ⟨fun c => absurd c (by decide), fun _ => hq⟩
theorem c_R_holds {l : Launch} {h : Nat} {mi : TMi} {ml : TMl} {z : Nat} {a : Ln} {d : Dt} {Q : Int32 → TMi → TMl → Nat → Prop} (hA : RA mi a d) (hq : ∀ mi', FQ mi mi' → Q (bI (hldA a d)) mi' ml z) : CI l (h + 5) m_R_holds [.ref 119] mi ml z Q := by
  have F0 : FQ mi (up mi 119 0 0) := FQ.u119 _ _ (by decide)
  refine t_R_holds mi ml z (c_R_laysNow (hA.q F0) (fun m F hl hw => ?_))
  have hq := hq m (F0.trans F)
  have hA1 := hA.q (F0.trans F)
  have hH := hA1.rh hl
  refine c_R_isHeld hH.1 hH.2.1 hH.2.2.1 hH.2.2.2.1 hH.b6 hH.b7 hw hH.2.2.2.2.2.2.2.2 ?_
  have eh : heldS (nB a) (nR a) (Lk m 126) (Lk m 127) (dR d) (dW d) = hldA a d := heldS_congr (fun x r hx e => (hw x hx).2 r e) hl
  rw [eh]
  cases e : hldA a d
  · rw [e] at hq; exact ⟨fun _ => hq, fun c => absurd rfl c⟩
  · rw [e] at hq; exact ⟨fun c => absurd c (by decide), fun _ => hq⟩
