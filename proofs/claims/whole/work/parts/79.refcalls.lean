/-! ===== the reference's calls that do something ===== -/
theorem sub_sub10 (x : Int32) : (-10 : Int32) - (-10 - x) = x := by
  apply Int32.toBitVec_inj.mp
  rw [Int32.toBitVec_sub, Int32.toBitVec_sub]
  bv_omega
theorem why_back {x : Int32} (h : ¬ whyC x = 0) : (-10 : Int32) - whyC x = x := by
  unfold whyC at h ⊢
  by_cases c : (-1 : Int32) ≤ x
  · rw [if_pos c] at h; exact absurd rfl h
  · rw [if_neg c]; exact sub_sub10 x
theorem IR.done {mi m' : TMi} {ml : TMl} {a : Ln} {d d' : Dt} {hs hs' : List Dt} {im : Nat → Option (Ln × Dt)} {ty : Ty} {n : Nat} {tp : Nat → Nat} {fk fp : Int32} (hI : IR mi ml a d hs im ty n tp fk fp) (F : FRw mi m') (e : ∀ k, k < 29 ∨ 470 ≤ k → m' 120 k = mi 120 k) (hc : CrA m' d') (hd : okD a d') (hP : PsR (m' 120) hs') : IR m' ml a d' hs' im ty n tp fk fp := by
  obtain ⟨h1, h2, h3, h4, h5, h6, h7⟩ := hI
  obtain ⟨f1, f2, f3, f4⟩ := F
  refine ⟨⟨h1.1, hd, h1.2.2.1, h1.2.2.2.1.fr h1.1 (fun k hk => e k (by omega)), hc⟩, hP, fun i hi => ?_, h4.fr (f1 134 (by omega)) (f1 135 (by omega)), ⟨by rw [f2]; exact h5.1, fun j hj => by rw [f1 122 (by omega)]; exact h5.2 j hj⟩, by rw [f3]; exact h6, by rw [f4]; exact h7⟩
  obtain ⟨k1, k2⟩ := h3 i hi
  refine ⟨by rw [f1 121 (by omega)]; exact k1, fun a' d' e' => ?_⟩
  obtain ⟨g1, g2, g3⟩ := k2 a' d' e'
  have e1 : (fun k => m' 120 (1371 * (i + 1) + k)) = (fun k => mi 120 (1371 * (i + 1) + k)) := funext (fun k => e _ (by omega))
  have e2 : (fun k => m' 120 (1371 * (i + 1) + (29 + k))) = (fun k => mi 120 (1371 * (i + 1) + (29 + k))) := funext (fun k => e _ (by omega))
  rw [e1, e2]
  exact ⟨g1, g2, g3⟩
theorem c_noted {l : Launch} {h : Nat} {mi m2 : TMi} {ml : TMl} {z : Nat} {a : Ln} {d d' : Dt} {hs : List Dt} {im : Nat → Option (Ln × Dt)} {ty : Ty} {n : Nat} {tp : Nat → Nat} {fk fp : Int32} {Q : TMi → TMl → Nat → Prop} (hI : IR mi ml a d hs im ty n tp fk fp) (hlen : hs.length ≤ 10) (hd' : okD a d') (F2 : FRw mi m2) (f2 : F120 mi m2) (c2 : CrA m2 d') (k2 : Cr (m2 128) d)
    (hq : ∀ m3, (∀ n, n < 119 → m3 n = mi n) → IR m3 ml a d' ((d :: hs).take 10) im ty n tp fk fp → m3 119 = m2 119 → m3 128 = m2 128 → CrA m3 d' → Q m3 ml z) : CV l (h + 1) m_R_notes [.ref 119] m2 ml z Q := by
  have hP2 : PsR (m2 120) hs := hI.2.1.fr hlen (fun k k1 _ => f2 k (by omega))
  refine c_notes hP2 hlen k2 (fun m3 F3 f3 hP3 => ?_)
  have c3 : CrA m3 d' := c2.ext (fun k hk => f3 _ (by omega))
  have e9 : m3 119 = m2 119 := F3 119 (by decide)
  have F3w : FRw mi m3 := F2.trans ⟨fun q hq => F3 q (by simp; omega), by rw [e9], by rw [e9], by rw [e9]⟩
  exact hq m3 (fun q hq' => F3w.1 q (by omega)) (hI.done F3w (fun k hk => by rw [f3 k (by omega), f2 k (by omega)]) c3 hd' hP3) e9 (F3 128 (by decide)) c3
theorem FQ.w {mi mi' : TMi} (h : FQ mi mi') : FRw mi mi' := ⟨fun n hn => h.1 n (by omega), h.2⟩
theorem Fr.w {ns : List Nat} {mi mi' : TMi} (F : Fr ns mi mi') (h : ∀ n, n < 119 ∨ n = 119 ∨ n = 121 ∨ n = 122 ∨ n = 134 ∨ n = 135 → n ∉ ns) : FRw mi mi' := by
  have e : mi' 119 = mi 119 := F 119 (h 119 (by omega))
  exact ⟨fun n hn => F n (h n (by omega)), by rw [e], by rw [e], by rw [e]⟩
theorem c_R_declare {l : Launch} {h : Nat} {mi : TMi} {ml : TMl} {z : Nat} {a : Ln} {d : Dt} {hs : List Dt} {im : Nat → Option (Ln × Dt)} {ty : Ty} {n : Nat} {tp : Nat → Nat} {fk fp x y : Int32} {Q : Int32 → TMi → TMl → Nat → Prop} (hI : IR mi ml a d hs im ty n tp fk fp) (hlen : hs.length ≤ 10)
    (hq : ∀ m3, (∀ n, n < 119 → m3 n = mi n) → IR m3 ml a (iInto a d x y).2 (kp (iInto a d x y).1 hs d) im ty n tp fk fp → Q (iInto a d x y).1 m3 ml z) : CI l (h + 6) m_R_declare [.ref 119, .int x, .int y] mi ml z Q := by
  have F0 : FQ mi (up mi 119 0 0) := FQ.u119 _ _ (by decide)
  have hA := hI.1
  have hA0 := hA.q F0
  unfold kp at hq
  refine t_R_declare mi ml z _ _ (c_whyDeclare hA.1 hA.2.1 hA.2.2.1 hA0.2.2.2.1 hA0.2.2.2.2 (fun m1 F1 => ?_))
  have F1q : FQ mi m1 := F0.trans (FQ.of F1 (fun n hn => by simp; omega))
  have hA1 := hA.q F1q
  refine ⟨fun c => c_keeps hA1.2.2.2.2 (fun m2 F2 k2 => ?_), fun c => ?_⟩
  · obtain ⟨⟨p1, p2⟩, p3, p4, p5⟩ := pass_into c
    obtain ⟨ex, hb⟩ := inB_nI (a := a) p1
    obtain ⟨ey, hr⟩ := inR_nI (a := a) p2
    have ei : iInto a d x y = dInto a d x.toInt.toNat y.toInt.toNat := by unfold iInto; rw [if_pos ⟨p1, p2⟩]
    have hok := okD_iInto hA.2.1 x y
    rw [if_pos c] at hq
    rw [ei] at hq hok
    generalize x.toInt.toNat = b at *
    generalize y.toInt.toNat = r at *
    rw [ex, ey]
    have e120 : m2 120 = mi 120 := by rw [F2 120 (by decide)]; exact F1q.1 120 (by omega)
    have Fw2 : FRw mi m2 := F1q.w.trans (F2.w (fun n hn => by simp; omega))
    refine c_declares hA.1 hA.2.1 hA.2.2.1 (by rw [e120]; exact hA.2.2.2.1) (hA.2.2.2.2.fr e120) hb hr p3 p4 p5 (fun m3 F3 f3 k3 c3 a3 => ?_)
    refine c_noted hI hlen hok (Fw2.trans F3.w) ((F120.of e120).trans f3) c3 (by rw [k3]; exact k2) (fun m4 e4 hI4 g119 _ _ => ?_)
    rw [g119, a3]
    exact hq m4 e4 hI4
  · rw [if_neg c] at hq
    rw [why_back c]
    have hf := into_fail hA.1 c
    rw [hf] at hq
    exact hq m1 (fun q hq' => F1q.1 q (by omega)) (hI.fr (F1q.x hA))
theorem pass_out {a : Ln} {d : Dt} {x : Int32} (h : whyC (iOut a d x).1 = 0) : inB a x ∧ (iOut a d x).1 = oI (dW d x.toInt.toNat) ∧ (iOut a d x).2 = setW d x.toInt.toNat none := by
  unfold iOut at h ⊢
  by_cases c : inB a x
  · rw [if_pos c] at h ⊢
    unfold dOut at h ⊢
    cases e : dW d x.toInt.toNat with
    | none => rw [e] at h; exact absurd h (show ¬ whyC (-12) = 0 by decide)
    | some r => exact ⟨c, rfl, rfl⟩
  · rw [if_neg c] at h; exact absurd h (show ¬ whyC (-11) = 0 by decide)
theorem c_R_leave {l : Launch} {h : Nat} {mi : TMi} {ml : TMl} {z : Nat} {a : Ln} {d : Dt} {hs : List Dt} {im : Nat → Option (Ln × Dt)} {ty : Ty} {n : Nat} {tp : Nat → Nat} {fk fp x : Int32} {Q : Int32 → TMi → TMl → Nat → Prop} (hI : IR mi ml a d hs im ty n tp fk fp) (hlen : hs.length ≤ 10)
    (hq : ∀ m3, (∀ n, n < 119 → m3 n = mi n) → IR m3 ml a (iOut a d x).2 (kp (iOut a d x).1 hs d) im ty n tp fk fp → Q (iOut a d x).1 m3 ml z) : CI l (h + 4) m_R_leave [.ref 119, .int x] mi ml z Q := by
  have F0 : FQ mi (up mi 119 0 0) := FQ.u119 _ _ (by decide)
  have hA := hI.1
  have hA0 := hA.q F0
  have hB6 := hA.1.1
  unfold kp at hq
  refine t_R_leave mi ml z _ (c_whyLeave hA.1 hA.2.1 hA0.2.2.2.1 hA0.2.2.2.2 ⟨fun c => c_keeps hA0.2.2.2.2 (fun m2 F2 k2 => ?_), fun c => ?_⟩)
  · obtain ⟨p1, p2, p3⟩ := pass_out c
    obtain ⟨ex, hb⟩ := inB_nI (a := a) p1
    have hok := okD_iOut hA.2.1 x
    rw [if_pos c, p2, p3] at hq
    rw [p3] at hok
    generalize x.toInt.toNat = b at *
    rw [ex, addL_cl 29 b (by omega)]
    have e120 : m2 120 = mi 120 := by rw [F2 120 (by decide)]; exact F0.1 120 (by omega)
    have Fw2 : FRw mi m2 := F0.w.trans (F2.w (fun n hn => by simp; omega))
    refine ⟨in_addL (a := 29) (by omega) (by decide), ?_⟩
    refine c_noted (d' := setW d b none) hI hlen hok (Fw2.trans ((Fr_up m2 120 (29 + b) (-1)).w (fun n hn => by simp; omega))) ((F120.of e120).trans (F120.u m2 (-1) (by omega))) (CrA.up (d := d) (Cr.sW (hA.2.2.2.2.fr e120) (by omega) none)) (by rw [up_ne _ _ _ (by decide)]; exact k2) (fun m4 e4 hI4 _ g128 _ => ⟨in_nI (by omega) (by decide), ?_⟩)
    rw [g128, cl_nI (by omega), up_ne _ _ _ (by decide), k2.1 b (by omega)]
    exact hq m4 e4 hI4
  · rw [if_neg c] at hq
    rw [why_back c]
    rw [out_fail hA.1 hA.2.1 c] at hq
    exact hq _ (fun q hq' => F0.1 q (by omega)) (hI.fr (F0.x hA))
theorem pass_give {a : Ln} {d : Dt} {y x v : Int32} (h : whyC (iGive a d y x v).1 = 0) : (inB a x ∧ inR a y ∧ 1 ≤ v.toInt ∧ v.toInt ≤ 9) ∧ (iGive a d y x v).1 = nI (dG d x.toInt.toNat y.toInt.toNat + v.toInt.toNat) ∧ (iGive a d y x v).2 = setG d x.toInt.toNat y.toInt.toNat (dG d x.toInt.toNat y.toInt.toNat + v.toInt.toNat) := by
  unfold iGive at h ⊢
  by_cases c : inB a x ∧ inR a y ∧ 1 ≤ v.toInt ∧ v.toInt ≤ 9
  · rw [if_pos c] at h ⊢
    unfold dGive at h ⊢
    by_cases e : dG d x.toInt.toNat y.toInt.toNat + v.toInt.toNat ≤ 9
    · rw [if_pos e]; exact ⟨c, rfl, rfl⟩
    · rw [if_neg e] at h; exact absurd h (show ¬ whyC (-12) = 0 by decide)
  · rw [if_neg c] at h; exact absurd h (show ¬ whyC (-11) = 0 by decide)
theorem c_R_send {l : Launch} {h : Nat} {mi : TMi} {ml : TMl} {z : Nat} {a : Ln} {d : Dt} {hs : List Dt} {im : Nat → Option (Ln × Dt)} {ty : Ty} {n : Nat} {tp : Nat → Nat} {fk fp y x v : Int32} {Q : Int32 → TMi → TMl → Nat → Prop} (hI : IR mi ml a d hs im ty n tp fk fp) (hlen : hs.length ≤ 10)
    (hq : ∀ m3, (∀ n, n < 119 → m3 n = mi n) → IR m3 ml a (iGive a d y x v).2 (kp (iGive a d y x v).1 hs d) im ty n tp fk fp → Q (iGive a d y x v).1 m3 ml z) : CI l (h + 4) m_R_send [.ref 119, .int y, .int x, .int v] mi ml z Q := by
  have F0 : FQ mi (up mi 119 0 0) := FQ.u119 _ _ (by decide)
  have hA := hI.1
  have hA0 := hA.q F0
  have hB6 := hA.1.1
  have hR4 := hA.1.2.1
  unfold kp at hq
  refine t_R_send mi ml z _ _ _ (c_whySend hA.1 hA.2.1 hA0.2.2.2.1 hA0.2.2.2.2 ⟨fun c => c_keeps hA0.2.2.2.2 (fun m2 F2 k2 => ?_), fun c => ?_⟩)
  · obtain ⟨⟨p1, p2, p3, p4⟩, p5, p6⟩ := pass_give c
    obtain ⟨ex, hb⟩ := inB_nI (a := a) p1
    obtain ⟨ey, hr⟩ := inR_nI (a := a) p2
    have ev := nI_toNat (x := v) (by omega)
    have hok := okD_iGive hA.2.1 y x v
    rw [if_pos c, p5, p6] at hq
    rw [p6] at hok
    generalize x.toInt.toNat = b at *
    generalize y.toInt.toNat = r at *
    have hv9 : v.toInt.toNat ≤ 9 := by omega
    generalize v.toInt.toNat = k at *
    rw [ex, ey, ev]
    have e120 : m2 120 = mi 120 := by rw [F2 120 (by decide)]; exact F0.1 120 (by omega)
    have Fw2 : FRw mi m2 := F0.w.trans (F2.w (fun n hn => by simp; omega))
    have hc2 : CrA m2 d := hA.2.2.2.2.fr e120
    have hin : vp_in (nI (45 + 6 * r + b)) 4113 := in_nI (by omega) (by decide)
    have eat : (45 : Int32) + 6 * nI r + nI b = nI (45 + 6 * r + b) := by
      rw [show (6 : Int32) * nI r = nI (6 * r) from mulL 6 r, addL, nI_add]
    refine t_R_giftAt _ _ _ _ _ ?_
    rw [eat, cl_nI (by omega), cr_gf hc2 (by omega) (by omega), nI_add]
    refine ⟨hin, hin, ?_⟩
    have hcu : CrA (up m2 120 (45 + 6 * r + b) (nI (dG d b r + k))) (setG d b r (dG d b r + k)) := by
      rw [show 45 + 6 * r + b = 29 + (16 + (6 * r + b)) by omega]
      exact CrA.up (d := d) (Cr.sG hc2 (by omega) (by omega) _)
    refine c_noted (d' := setG d b r (dG d b r + k)) hI hlen hok (Fw2.trans ((Fr_up m2 120 (45 + 6 * r + b) _).w (fun n hn => by simp; omega))) ((F120.of e120).trans (fun j hj => up_nk _ _ _ (by omega))) hcu (by rw [up_ne _ _ _ (by decide)]; exact k2) (fun m4 e4 hI4 _ _ c4 => t_R_giftAt _ _ _ _ _ ?_)
    rw [eat, cl_nI (by omega), cr_gf c4 (by omega) (by omega), show dG (setG d b r (dG d b r + k)) b r = dG d b r + k by simp [dG, setG]]
    exact ⟨hin, hq m4 e4 hI4⟩
  · rw [if_neg c] at hq
    rw [why_back c]
    rw [give_fail _ _ _ c] at hq
    exact hq _ (fun q hq' => F0.1 q (by omega)) (hI.fr (F0.x hA))
theorem c_R_rain {l : Launch} {h : Nat} {mi : TMi} {ml : TMl} {z : Nat} {a : Ln} {d : Dt} {hs : List Dt} {im : Nat → Option (Ln × Dt)} {ty : Ty} {n : Nat} {tp : Nat → Nat} {fk fp x v : Int32} {Q : Int32 → TMi → TMl → Nat → Prop} (hI : IR mi ml a d hs im ty n tp fk fp) (hlen : hs.length ≤ 10)
    (hq : ∀ m3, (∀ n, n < 119 → m3 n = mi n) → IR m3 ml a (iPour a d x v).2 (kp (iPour a d x v).1 hs d) im ty n tp fk fp → Q (iPour a d x v).1 m3 ml z) : CI l (h + 3) m_R_rain [.ref 119, .int x, .int v] mi ml z Q := by
  have F0 : FQ mi (up mi 119 0 0) := FQ.u119 _ _ (by decide)
  have hA := hI.1
  have hA0 := hA.q F0
  have hB6 := hA.1.1
  have hok := okD_iPour hA.2.1 x v
  unfold kp iPour at hq
  unfold iPour at hok
  have no : ¬ (inB a x ∧ 0 ≤ v.toInt ∧ v.toInt ≤ 9) → Q (-11) (up mi 119 0 0) ml z := fun hn => by
    rw [if_neg hn, if_neg (show ¬ whyC (-11) = 0 by decide)] at hq
    exact hq _ (fun q hq' => F0.1 q (by omega)) (hI.fr (F0.x hA))
  refine t_R_rain mi ml z _ _ (c_R_isBeck hA0.2.2.2.1.1 hB6 ?_)
  rw [t64]
  refine ⟨fun c => ?_, fun c => c_R_within ?_⟩
  · rw [bI_0, decide_eq_false_iff_not] at c
    exact no (fun k => c k.1)
  · rw [bI_0, Bool.not_eq_false, decide_eq_true_eq] at c
    rw [t64, show (0 : Int64).toInt = 0 by decide, show (9 : Int64).toInt = 9 by decide, bI_0]
    refine ⟨fun c2 => c_keeps hA0.2.2.2.2 (fun m2 F2 k2 => ?_), fun c2 => ?_⟩
    · rw [Bool.not_eq_false, decide_eq_true_eq] at c2
      rw [if_pos ⟨c, c2⟩] at hq hok
      have hf9 := (hA.2.1.2.1 x.toInt.toNat).1
      rw [if_pos (why_nI (by omega))] at hq
      obtain ⟨ex, hb⟩ := inB_nI (a := a) c
      have ev := nI_toNat (x := v) c2.1
      generalize x.toInt.toNat = b at *
      generalize v.toInt.toNat = k at *
      rw [ex, ev, addL_cl 35 b (by omega)]
      have e120 : m2 120 = mi 120 := by rw [F2 120 (by decide)]; exact F0.1 120 (by omega)
      have Fw2 : FRw mi m2 := F0.w.trans (F2.w (fun n hn => by simp; omega))
      refine ⟨in_addL (a := 35) (by omega) (by decide), ?_⟩
      have hcu : CrA (up m2 120 (35 + b) (nI k)) (setF d b k) := by
        rw [show 35 + b = 29 + (6 + b) by omega]
        exact CrA.up (d := d) (Cr.sF (hA.2.2.2.2.fr e120) (by omega) _)
      refine c_noted (d' := setF d b k) hI hlen hok (Fw2.trans ((Fr_up m2 120 (35 + b) _).w (fun n hn => by simp; omega))) ((F120.of e120).trans (fun j hj => up_nk _ _ _ (by omega))) hcu (by rw [up_ne _ _ _ (by decide)]; exact k2) (fun m4 e4 hI4 _ g128 _ => ⟨in_addL (a := 6) (by omega) (by decide), ?_⟩)
      rw [g128, addL_cl 6 b (by omega), up_ne _ _ _ (by decide), k2.2.1 b (by omega)]
      exact hq m4 e4 hI4
    · rw [decide_eq_false_iff_not] at c2
      exact no (fun k => c2 k.2)
