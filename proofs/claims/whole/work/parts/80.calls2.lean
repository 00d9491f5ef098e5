/-! ===== room, perform, year of the reference; undo, judge of both ===== -/
theorem c_R_room {l : Launch} {h : Nat} {mi : TMi} {ml : TMl} {z : Nat} {a : Ln} {d : Dt} {hs : List Dt} {im : Nat → Option (Ln × Dt)} {ty : Ty} {n : Nat} {tp : Nat → Nat} {fk fp y v : Int32} {Q : Int32 → TMi → TMl → Nat → Prop} (hI : IR mi ml a d hs im ty n tp fk fp) (hlen : hs.length ≤ 10)
    (hq : ∀ m3, (∀ n, n < 119 → m3 n = mi n) → IR m3 ml a (iWide a d y v).2 (kp (iWide a d y v).1 hs d) im ty n tp fk fp → Q (iWide a d y v).1 m3 ml z) : CI l (h + 5) m_R_room [.ref 119, .int y, .int v] mi ml z Q := by
  have F0 : FQ mi (up mi 119 0 0) := FQ.u119 _ _ (by decide)
  have hA := hI.1
  have hA0 := hA.q F0
  have hB6 := hA.1.1
  have hR4 := hA.1.2.1
  have hok := okD_iWide hA.1 hA.2.1 y v
  unfold kp iWide at hq
  unfold iWide at hok
  have no : ¬ (inR a y ∧ 0 ≤ v.toInt ∧ v.toInt ≤ 6) → Q (-11) (up mi 119 0 0) ml z := fun hn => by
    rw [if_neg hn, if_neg (show ¬ whyC (-11) = 0 by decide)] at hq
    exact hq _ (fun q hq' => F0.1 q (by omega)) (hI.fr (F0.x hA))
  refine t_R_room mi ml z _ _ (c_R_isRiver hA0.2.2.2.1.2.1 hR4 ?_)
  rw [t64]
  refine ⟨fun c => ?_, fun c => c_R_within ?_⟩
  · rw [bI_0, decide_eq_false_iff_not] at c
    exact no (fun k => c k.1)
  · rw [bI_0, Bool.not_eq_false, decide_eq_true_eq] at c
    rw [t64, show (0 : Int64).toInt = 0 by decide, show (6 : Int64).toInt = 6 by decide, bI_0]
    refine ⟨fun c2 => c_keeps hA0.2.2.2.2 (fun m2 F2 k2 => ?_), fun c2 => ?_⟩
    · rw [Bool.not_eq_false, decide_eq_true_eq] at c2
      rw [if_pos ⟨c, c2⟩] at hq hok
      obtain ⟨ex, hr⟩ := inR_nI (a := a) c
      have ev := nI_toNat (x := v) c2.1
      have hk6 : v.toInt.toNat ≤ 6 := by omega
      generalize y.toInt.toNat = r at *
      generalize v.toInt.toNat = k at *
      rw [ex, ev, addL_cl 41 r (by omega)]
      have e120 : m2 120 = mi 120 := by rw [F2 120 (by decide)]; exact F0.1 120 (by omega)
      have Fw2 : FRw mi m2 := F0.w.trans (F2.w (fun n hn => by simp; omega))
      refine ⟨in_addL (a := 41) (by omega) (by decide), ?_⟩
      have hc1 : CrA (up m2 120 (41 + r) (nI k)) (setR d r k) := by
        rw [show 41 + r = 29 + (12 + r) by omega]
        exact CrA.up (d := d) (Cr.sR (hA.2.2.2.2.fr e120) (by omega) k)
      have G1 : FRp m2 (up m2 120 (41 + r) (nI k)) := FRp.u _ _ _ (by decide)
      have G2 : F120 m2 (up m2 120 (41 + r) (nI k)) := by rw [show 41 + r = 29 + (12 + r) by omega]; exact F120.u _ _ (by omega)
      have G8 : (up m2 120 (41 + r) (nI k)) 128 = m2 128 := up_ne _ _ _ (by decide)
      generalize up m2 120 (41 + r) (nI k) = m3 at hc1 G1 G2 G8 ⊢
      have e2 : dR (setR d r k) r = k := by simp [dR, setR]
      have f13 : F120 mi m3 := (F120.of e120).trans G2
      refine c_pushes (fu := 6) hA.1 (okV_setR hA.2.1.v hr hk6) hA.2.2.1 (hA.2.2.2.1.fr hA.1 (fun j hj => f13 j (by omega))) hc1 hr (by have := cnt_le (inn (dW (setR d r k)) r) (nB a); omega) (fun m4 H1 H2 H8 H3 _ => ?_)
      rw [e2] at H3 ⊢
      have hps := psh_le (tkD a d) (nB a) r k 6 (dW d)
      rw [if_pos (show whyC (dWide a d r k).1 = 0 from why_nI (show (psh (tkD a d) (nB a) r k 6 (dW d)).1 < 2 ^ 31 by omega))] at hq
      exact c_noted (d' := (dWide a d r k).2) hI hlen hok ((Fw2.trans G1.w).trans H1.w) (f13.trans H2) H3 (by rw [H8, G8]; exact k2) (fun m5 e5 hI5 _ _ _ => hq m5 e5 hI5)
    · rw [decide_eq_false_iff_not] at c2
      exact no (fun k => c2 k.2)
theorem c_R_perform {l : Launch} {h : Nat} {mi : TMi} {ml : TMl} {z : Nat} {a : Ln} {d : Dt} {hs : List Dt} {im : Nat → Option (Ln × Dt)} {ty : Ty} {n : Nat} {tp : Nat → Nat} {fk fp x : Int32} {Q : Int32 → TMi → TMl → Nat → Prop} (hI : IR mi ml a d hs im ty n tp fk fp) (hlen : hs.length ≤ 10) (hS : ∀ t, t < 4 → ∀ s, ty.1 t = some s → s < 4) (hN : ∀ t, t < 4 → ty.2.1 t ≤ 40)
    (hq0 : ¬ noT ty x = 0 → ∀ m3, (∀ n, n < 119 → m3 n = mi n) → IR m3 ml a d hs im ty n tp fk fp → Q (noT ty x) m3 ml z) (hq1 : noT ty x = 0 → ∀ m3, (∀ n, n < 119 → m3 n = mi n) → IR m3 ml a (runD a (ty.2.2 x.toInt.toNat) (ty.2.1 x.toInt.toNat) 0 d).2.2 (kpN (runD a (ty.2.2 x.toInt.toNat) (ty.2.1 x.toInt.toNat) 0 d).1 hs d) im ty n tp fk fp → Q (nI (runD a (ty.2.2 x.toInt.toNat) (ty.2.1 x.toInt.toNat) 0 d).1) m3 ml z) : CI l (h + 8) m_R_perform [.ref 119, .int x] mi ml z Q := by
  have F0 : FQ mi (up mi 119 0 0) := FQ.u119 _ _ (by decide)
  have hA := hI.1
  have hA0 := hA.q F0
  have hT0 : TrR (up mi 119 0 0) ml ty := hI.2.2.2.1.fr (up_ne _ _ _ (by decide)) (up_ne _ _ _ (by decide))
  refine t_R_perform mi ml z _ (c_R_noTray hT0 hS ?_)
  show (noT ty x = 0 → _) ∧ (¬ noT ty x = 0 → _)
  refine ⟨fun c => c_keeps hA0.2.2.2.2 (fun m2 F2 k2 => ?_), fun c => hq0 c _ (fun q hq => F0.1 q (by omega)) (hI.fr (F0.x hA))⟩
  have hq1 := hq1 c
  have hx : inT x := by
    by_cases q : inT x
    · exact q
    · unfold noT at c; rw [if_neg q] at c; exact absurd c (by decide)
  obtain ⟨ex, ht⟩ := inT_nI hx
  generalize x.toInt.toNat = t at ex ht hq1
  rw [ex]
  have e120 : m2 120 = mi 120 := by rw [F2 120 (by decide)]; exact F0.1 120 (by omega)
  have Fw2 : FRw mi m2 := F0.w.trans (F2.w (fun n hn => by simp; omega))
  refine c_tells ht (hT0.fr (F2 134 (by decide)) (F2 135 (by decide))) (hN t ht) hA.1 hA.2.1 hA.2.2.1 (by rw [e120]; exact hA.2.2.2.1) (hA.2.2.2.2.fr e120) (fun m3 F3 f3 k3 c3 _ => ?_)
  have hle := runD_le (a := a) (vs := ty.2.2 t) (k := ty.2.1 t) (i := 0) (d := d)
  have h40 := hN t ht
  have hok := okD_run (vs := ty.2.2 t) (k := ty.2.1 t) (i := 0) hA.1 hA.2.1
  show (nI (runD a (ty.2.2 t) (ty.2.1 t) 0 d).1 ≤ nI 0 → _) ∧ (¬ nI (runD a (ty.2.2 t) (ty.2.1 t) 0 d).1 ≤ nI 0 → _)
  rw [nI_leI (by omega) (by decide)]
  unfold kpN at hq1
  refine ⟨fun c4 => ?_, fun c4 => ?_⟩
  · rw [if_pos (by omega)] at hq1
    have hP3 : PsR (m3 120) hs := hI.2.1.fr hlen (fun j j1 _ => by rw [f3 j (by omega), e120])
    exact hq1 m3 (fun q hq => (Fw2.trans F3).1 q (by omega)) (hI.done (Fw2.trans F3) (fun j hj => by rw [f3 j (by omega), e120]) c3 hok hP3)
  · rw [if_neg (by omega)] at hq1
    exact c_noted hI hlen hok (Fw2.trans F3) ((F120.of e120).trans f3) c3 (by rw [k3]; exact k2) (fun m4 e4 hI4 _ _ _ => hq1 m4 e4 hI4)
theorem c_draw {l : Launch} {h : Nat} {mi : TMi} {ml : TMl} {z : Nat} {m : Int32} {Q : Int32 → TMi → TMl → Nat → Prop} (hm0 : ¬ m = 0) (hq : Q (drD (mi 119 22) m) (up mi 119 22 (nxD (mi 119 22))) ml z) : CI l (h + 1) m_R_draw [.ref 119, .int m] mi ml z Q := by
  refine t_R_draw mi ml z _ ⟨hm0, ?_⟩
  rw [up_at]
  exact hq
theorem c_R_drawn {l : Launch} {h : Nat} {mi : TMi} {ml : TMl} {z : Nat} {Q : Int32 → TMi → TMl → Nat → Prop} (hq : Q (deedX (mi 119 22)).1 (up mi 119 22 (deedX (mi 119 22)).2) ml z) : CI l (h + 2) m_R_drawn [.ref 119] mi ml z Q := by
  unfold deedX at hq
  refine t_R_drawn mi ml z (c_draw (by decide) ⟨fun c => c_draw (by decide) ⟨fun c2 => ⟨fun c3 => c_draw (by decide) ?_, fun c3 => ?_⟩, fun c2 => c_draw (by decide) ?_⟩, fun c => c_draw (by decide) (c_draw (by decide) ?_)⟩)
  · rw [if_neg c, if_neg c3, if_pos c2] at hq
    simp only [up_at, up_up]
    exact hq
  · rw [if_neg c, if_pos c3] at hq
    simp only [up_at, up_up]
    exact hq
  · rw [if_neg c, if_neg (fun k => c2 (by rw [k]; decide)), if_neg c2] at hq
    simp only [up_at, up_up]
    exact hq
  · rw [if_pos c] at hq
    simp only [up_at, up_up]
    exact hq
theorem yr_x {a : Ln} {s : Int32 × Nat × Dt} {i : Nat} : (yrN a s (i + 1)).1 = (deedX (yrN a s i).1).2 := rfl
theorem yr_d {a : Ln} {s : Int32 × Nat × Dt} {i : Nat} : (yrN a s (i + 1)).2.2 = (iDeed a (yrN a s i).2.2 (deedX (yrN a s i).1).1.toInt64).2 := rfl
theorem yr_n1 {a : Ln} {s : Int32 × Nat × Dt} {i : Nat} (h : whyC (iDeed a (yrN a s i).2.2 (deedX (yrN a s i).1).1.toInt64).1 = 0) : (yrN a s (i + 1)).2.1 = (yrN a s i).2.1 + 1 := by simp only [yrN, yrS]; rw [if_pos h]
theorem yr_n0 {a : Ln} {s : Int32 × Nat × Dt} {i : Nat} (h : ¬ whyC (iDeed a (yrN a s i).2.2 (deedX (yrN a s i).1).1.toInt64).1 = 0) : (yrN a s (i + 1)).2.1 = (yrN a s i).2.1 := by simp only [yrN, yrS]; rw [if_neg h]
theorem c_R_year {l : Launch} {h : Nat} {mi : TMi} {ml : TMl} {z : Nat} {a : Ln} {d : Dt} {hs : List Dt} {im : Nat → Option (Ln × Dt)} {ty : Ty} {n : Nat} {tp : Nat → Nat} {fk fp x v : Int32} {Q : Int32 → TMi → TMl → Nat → Prop} (hI : IR mi ml a d hs im ty n tp fk fp) (hlen : hs.length ≤ 10)
    (hq0 : ¬ (1 ≤ v.toInt ∧ v.toInt ≤ 40) → ∀ m3, (∀ n, n < 119 → m3 n = mi n) → IR m3 ml a d hs im ty n tp fk fp → Q (-3) m3 ml z) (hq1 : 1 ≤ v.toInt ∧ v.toInt ≤ 40 → ∀ m3, (∀ n, n < 119 → m3 n = mi n) → IR m3 ml a (yrN a (x, 0, d) v.toInt.toNat).2.2 (kpN (yrN a (x, 0, d) v.toInt.toNat).2.1 hs d) im ty n tp fk fp → Q (nI (yrN a (x, 0, d) v.toInt.toNat).2.1) m3 ml z) : CI l (h + 8) m_R_year [.ref 119, .int x, .int v] mi ml z Q := by
  have F0 : FQ mi (up mi 119 0 0) := FQ.u119 _ _ (by decide)
  have hA := hI.1
  have hA0 := hA.q F0
  refine t_R_year mi ml z _ _ (c_R_within ?_)
  rw [t64, show (1 : Int64).toInt = 1 by decide, show (40 : Int64).toInt = 40 by decide, bI_0]
  refine ⟨fun c => c_keeps hA0.2.2.2.2 (fun m2 F2 k2 => ?_), fun c => ?_⟩
  · rw [Bool.not_eq_false, decide_eq_true_eq] at c
    have hq1 := hq1 c
    have ev := nI_toNat (x := v) (by omega)
    have h40 : v.toInt.toNat ≤ 40 := by omega
    generalize v.toInt.toNat = k at ev h40 hq1
    rw [ev]
    have e120 : m2 120 = mi 120 := by rw [F2 120 (by decide)]; exact F0.1 120 (by omega)
    have Fw2 : FRw mi (up m2 119 22 x) := (F0.w.trans (F2.w (fun n hn => by simp; omega))).trans (FRw.u119 _ _ (by decide))
    refine loop (P := fun i => ∀ m, FRw mi m → F120 mi m → CrA m (yrN a (x, 0, d) i).2.2 → Cr (m 128) d → m 119 22 = (yrN a (x, 0, d) i).1 → Ev l (h + 8) m_R_year 34 ([.ref 119, .retAddr 0, .int (nI k), .int (nI (yrN a (x, 0, d) i).2.1), .int (nI i), .retAddr 0], [], st m ml z) (qI Q)) k (fun m G1 G2 G3 G4 G5 => ?_) (fun i hi ih m G1 G2 G3 G4 G5 => ?_) _ Fw2 (F120.of (by rw [up_ne _ _ _ (by decide)]; exact e120)) (hA.2.2.2.2.fr (by rw [up_ne _ _ _ (by decide)]; exact e120)) (by rw [up_ne _ _ _ (by decide)]; exact k2) (up_at _ _ _ _)
    · have hle := yrN_le (a := a) (x := x) (d := d) (k := k)
      have hok := yrN_ok (x := x) hA.1 hA.2.1 (k := k)
      refine t_R_year_34 m ml z _ _ _ ⟨fun _ => ?_, fun c => absurd (le_at (N := k) rfl (by omega)) c⟩
      show (nI (yrN a (x, 0, d) k).2.1 ≤ nI 0 → _) ∧ (¬ nI (yrN a (x, 0, d) k).2.1 ≤ nI 0 → _)
      rw [nI_leI (by omega) (by decide)]
      unfold kpN at hq1
      refine ⟨fun c4 => ?_, fun c4 => ?_⟩
      · rw [if_pos (by omega)] at hq1
        have hP3 : PsR (m 120) hs := hI.2.1.fr hlen (fun j j1 _ => G2 j (by omega))
        exact hq1 m (fun q hq => G1.1 q (by omega)) (hI.done G1 (fun j hj => G2 j (by omega)) G3 hok hP3)
      · rw [if_neg (by omega)] at hq1
        exact c_noted hI hlen hok G1 G2 G3 G4 (fun m4 e4 hI4 _ _ _ => hq1 m4 e4 hI4)
    · have hok := yrN_ok (x := x) hA.1 hA.2.1 (k := i)
      refine t_R_year_34 m ml z _ _ _ ⟨fun c => absurd c (ge_no (N := k) rfl (by omega) hi), fun _ => c_R_drawn ?_⟩
      rw [G5]
      have U1 : FRw mi (up m 119 22 (deedX (yrN a (x, 0, d) i).1).2) := G1.trans (FRw.u119 _ _ (by decide))
      have U2 : F120 mi (up m 119 22 (deedX (yrN a (x, 0, d) i).1).2) := G2.trans (F120.of (up_ne _ _ _ (by decide)))
      have U3 : CrA (up m 119 22 (deedX (yrN a (x, 0, d) i).1).2) (yrN a (x, 0, d) i).2.2 := G3.fr (up_ne _ _ _ (by decide))
      have U4 : Cr ((up m 119 22 (deedX (yrN a (x, 0, d) i).1).2) 128) d := by rw [up_ne _ _ _ (by decide)]; exact G4
      have U5 : (up m 119 22 (deedX (yrN a (x, 0, d) i).1).2) 119 22 = (deedX (yrN a (x, 0, d) i).1).2 := up_at _ _ _ _
      generalize up m 119 22 (deedX (yrN a (x, 0, d) i).1).2 = m3 at U1 U2 U3 U4 U5 ⊢
      have hl : LnR (m3 120) a := hA.2.2.2.1.fr hA.1 (fun j hj => U2 j (by omega))
      refine c_whyNotR hA.1 hok hA.2.2.1 hl U3 (fun m4 F4 => ?_)
      have V1 : FRw mi m4 := U1.trans (F4.w (fun n hn => by simp; omega))
      have V2 : F120 mi m4 := U2.trans (F120.of (F4 120 (by decide)))
      have V3 : CrA m4 (yrN a (x, 0, d) i).2.2 := U3.fr (F4 120 (by decide))
      have V4 : Cr (m4 128) d := by rw [F4 128 (by decide)]; exact U4
      have V5 : m4 119 22 = (deedX (yrN a (x, 0, d) i).1).2 := by rw [F4 119 (by decide)]; exact U5
      rw [nI_1, nI_1]
      refine ⟨fun c => ?_, fun c => ?_⟩
      · obtain ⟨r1, r2, r3⟩ := deed_rng c
        rw [t64_32] at r2
        rw [yr_x, yr_d, yr_n1 c] at ih
        rw [r1] at c ih
        have hl4 : LnR (m4 120) a := hA.2.2.2.1.fr hA.1 (fun j hj => V2 j (by omega))
        have key : CV l (h + 7) m_R_does [.ref 119, .int (deedX (yrN a (x, 0, d) i).1).1] m4 ml z (fun mi7 ml7 z7 => Ev l (h + 8) m_R_year 34 ([.ref 119, .retAddr 0, .int (nI k), .int (nI ((yrN a (x, 0, d) i).2.1 + 1)), .int (nI (i + 1)), .retAddr 0], [], st mi7 ml7 z7) (qI Q)) := by
          rw [r2]
          refine c_does hA.1 hok hA.2.2.1 hl4 V3 r3 c (fun m5 W1 W2 W8 W3 => ?_)
          have e22 : m5 119 22 = m4 119 22 := W1.2.2.2.2.2
          exact ih m5 (V1.trans W1.w) (V2.trans W2) W3 (by rw [W8]; exact V4) (by rw [e22, V5])
        exact key
      · rw [yr_x, yr_d, yr_n0 c, deed_fail hA.1 hok c] at ih
        exact ih m4 V1 V2 V3 V4 V5
  · rw [decide_eq_false_iff_not] at c
    exact hq0 c _ (fun q hq => F0.1 q (by omega)) (hI.fr (F0.x hA))
