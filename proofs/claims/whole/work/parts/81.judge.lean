/-! ===== undo and judge of both ===== -/
theorem c_B_undo {l : Launch} {h : Nat} {mi : TMi} {ml : TMl} {z : Nat} {a : Ln} {d : Dt} {hs : List Dt} {im : Nat → Option (Ln × Dt)} {ty : Ty} {n : Nat} {tp : Nat → Nat} {fk fp x : Int32} {Q : Int32 → TMi → TMl → Nat → Prop} (hI : IC mi ml a d hs im ty n tp fk fp)
    (hno : ¬ (1 ≤ x.toInt ∧ x.toInt ≤ hs.length) → Q (-3) mi ml z)
    (hq : ∀ (k : Nat) (d' : Dt) m3, x = nI k → 0 < k → hs[k - 1]? = some d' → (∀ n, 119 ≤ n → m3 n = mi n) → IC m3 ml a d' (hs.drop k) im ty n tp fk fp → Q (nI (hs.length - k)) m3 ml z) : CI l (h + 6) m_B_undo [.ref 1, .int x] mi ml z Q := by
  have hA := hI.1
  have ha := hA.1
  have hB6 := ha.1
  have hR4 := ha.2.1
  have hlen := hI.2.1.1
  have h3 : mi 42 3 = nI hs.length := by obtain ⟨_, nx, _, _, h3, _⟩ := hI.2.1; exact h3
  refine t_B_undo mi ml z _ ?_
  rw [h3, Int32.lt_iff_toInt_lt, show (1 : Int32).toInt = 1 by decide, Int32.le_iff_toInt_le, nI_toInt (by omega)]
  refine ⟨fun c => hno (fun q => by omega), fun c => ⟨fun c2 => ?_, fun c2 => hno (fun q => c2 q.2)⟩⟩
  have hx := nI_toNat (x := x) (by omega)
  have hk0 : 0 < x.toInt.toNat := by omega
  have hkl : x.toInt.toNat ≤ hs.length := by omega
  generalize x.toInt.toNat = k at hx hk0 hkl
  obtain ⟨d', hd⟩ : ∃ d', hs[k - 1]? = some d' := ⟨hs[k - 1]'(by omega), List.getElem?_eq_getElem (by omega)⟩
  have hq := hq k d'
  have hok : okD a d' := hI.2.2.1 d' (List.mem_of_getElem? hd)
  rw [hx]
  refine c_bringBack hI.2.1 hk0 hd (fun m1 F1 hc1 hP1 => ?_)
  have hl1 : LnC m1 18 a := hA.2.2.1.fr (fun j hj => F1 _ (by simp; omega))
  have hs1 : SLp m1 28 29 30 31 32 (nB a) (nR a) (fun _ _ => False) (lkD a d') (tkD a d') := by
    refine ⟨fun b r _ _ hp => hp.elim, fun b hb => ?_⟩
    obtain ⟨m, k1, k2, _⟩ := hA.2.2.2.2.2 b hb
    exact ⟨m, by rw [F1 32 (by decide)]; exact k1, k2, fun r _ hp => hp.elim⟩
  have hm : ∀ b r, b < nB a → r < nR a → Ms m1 27 (nL a) (nT a) (lkD a d') (tkD a d') b r (m1 20 b) (m1 27 (16 + (4 * b + r))) := fun b r hb hr => by
    have e0 : m1 20 b = nI (nM a b) := hl1.2.2.2.1 b hb
    have e1 : m1 27 (6 + b) = nI (dF d' b) := hc1.2.1 b (by omega)
    have e2 : m1 24 r = nI (nNm a r) := hl1.2.2.2.2.2.1 r hr
    have e3 : m1 27 (16 + (4 * b + r)) = nI (dG d' b r) := hc1.2.2.2 b r (by omega) (by omega)
    unfold Ms
    rw [e0, e1, e2, e3]
    exact ⟨okW_wds (by omega) (hok.2.1 b).1 (ha.2.2.1 b hb).1 (by omega) (ha.2.2.2 r hr).1 (hok.2.2.2.1 b r), rfl, rfl⟩
  refine c_Sc_measureAll_17 (hl1.ld ha) hm hs1 (fun m2 F2 h2 => ?_)
  have E : ∀ n, n ∉ [15, 16, 27, 28, 29, 30, 31, 32, 42] → m2 n = mi n := fun n hn => by
    rw [F2 n (fun q => hn (by simp at q ⊢; omega)), F1 n (fun q => hn (by simp at q ⊢; omega))]
  have hP2 : PsC m2 (hs.drop k) := hP1.fr (fun j j1 j2 => F2 j (by simp; omega))
  have e3 : m2 42 3 = nI (hs.length - k) := by
    obtain ⟨_, nx, _, _, g3, _⟩ := hP2
    rw [g3, List.length_drop]
  obtain ⟨i1, i2, i3, i4, i5, i6, i7, i8, i9⟩ := hI
  rw [e3]
  refine hq m2 hx hk0 hd (fun j hj => E j (by simp; omega)) ⟨⟨ha, hok, hl1.fr (fun j hj => F2 _ (by simp; omega)), by rw [F2 27 (by decide)]; exact hc1, h2⟩, hP2, fun d2 hm2 => i3 d2 (List.mem_of_mem_drop hm2), i4.fr (fun j hj => E j (by simp; omega)), i5.fr (fun j k1 k2 => E j (by simp; omega)), ⟨by rw [E 1 (by decide)]; exact i6.1, i6.2.1, fun j hj => by rw [E 2 (by decide)]; exact i6.2.2 j hj⟩, by rw [E 1 (by decide)]; exact i7, by rw [E 1 (by decide)]; exact i8, by rw [E 11 (by decide)]; exact i9⟩
theorem c_R_undoI {l : Launch} {h : Nat} {mi : TMi} {ml : TMl} {z : Nat} {a : Ln} {d : Dt} {hs : List Dt} {im : Nat → Option (Ln × Dt)} {ty : Ty} {n : Nat} {tp : Nat → Nat} {fk fp x : Int32} {Q : Int32 → TMi → TMl → Nat → Prop} (hI : IR mi ml a d hs im ty n tp fk fp) (hlen : hs.length ≤ 10) (hok : ∀ d', d' ∈ hs → okD a d')
    (hno : ¬ (1 ≤ x.toInt ∧ x.toInt ≤ hs.length) → ∀ m3, (∀ n, n < 119 → m3 n = mi n) → IR m3 ml a d hs im ty n tp fk fp → Q (-3) m3 ml z)
    (hq : ∀ (k : Nat) (d' : Dt) m3, x = nI k → 0 < k → hs[k - 1]? = some d' → (∀ n, n < 119 → m3 n = mi n) → IR m3 ml a d' (hs.drop k) im ty n tp fk fp → Q (nI (hs.length - k)) m3 ml z) : CI l (h + 2) m_R_undo [.ref 119, .int x] mi ml z Q := by
  have F0 : FQ mi (up mi 119 0 0) := FQ.u119 _ _ (by decide)
  refine c_R_undo hI.2.1 hlen (fun c => hno c _ (fun q hq => F0.1 q (by omega)) (hI.fr (F0.x hI.1))) (fun k d' m' ex h0 hd F e9 e120 hc hP => hq k d' m' ex h0 hd (fun j hj => F j (by simp; omega)) (hI.done ⟨fun j hj => F j (by simp; omega), ?_, ?_, ?_⟩ e120 hc (hok d' (List.mem_of_getElem? hd)) hP))
  · rw [e9]; exact up_nk _ _ _ (by decide)
  · rw [e9]; exact up_nk _ _ _ (by decide)
  · rw [e9]; exact up_nk _ _ _ (by decide)
/-- what telling comes to: all done, or stopped at a deed that could not be -/
theorem runD_end {a : Ln} {vs : Nat → Int64} : ∀ {k i : Nat} {d : Dt}, ((runD a vs k i d).1 = i + k ∧ (runD a vs k i d).2.1 = 0) ∨ ((runD a vs k i d).1 < i + k ∧ ¬ (runD a vs k i d).2.1 = 0 ∧ (runD a vs k i d).2.1 = whyC (iDeed a (runD a vs k i d).2.2 (vs (runD a vs k i d).1)).1)
  | 0, i, d => Or.inl ⟨rfl, rfl⟩
  | k + 1, i, d => by
    by_cases c : whyC (iDeed a d (vs i)).1 = 0
    · have e : runD a vs (k + 1) i d = runD a vs k (i + 1) (iDeed a d (vs i)).2 := by simp only [runD]; rw [if_pos c]
      rw [e]
      rcases runD_end (a := a) (vs := vs) (k := k) (i := i + 1) (d := (iDeed a d (vs i)).2) with ⟨h1, h2⟩ | ⟨h1, h2⟩
      · exact Or.inl ⟨by omega, h2⟩
      · exact Or.inr ⟨by omega, h2⟩
    · have e : runD a vs (k + 1) i d = (i, whyC (iDeed a d (vs i)).1, d) := by simp only [runD]; rw [if_neg c]
      rw [e]
      exact Or.inr ⟨by show i < i + (k + 1); omega, c, rfl⟩
def nowA (a : Ln) (d : Dt) : Nat := enc (fun b => oI (dW d b) == (-1 : Int32)) (nB a)
def jdG (a : Ln) (y : Int32) (G : Nat × Int32 × Dt) : Int32 := if y = 0 then (if G.2.1 = 0 then -1 else nI G.1) else if y = 1 then G.2.1 else if y = 2 then nI (nowA a G.2.2) else nI (floA a G.2.2)
def jdA (a : Ln) (d : Dt) (ty : Ty) (x y : Int32) : Int32 := if 0 ≤ y.toInt ∧ y.toInt ≤ 3 then (if noT ty x = 0 then jdG a y (runD a (ty.2.2 x.toInt.toNat) (ty.2.1 x.toInt.toNat) 0 d) else noT ty x) else -2
theorem c_Tr_at {l : Launch} {h : Nat} {mi : TMi} {ml : TMl} {z : Nat} {t i n : Nat} {Q : Int64 → TMi → TMl → Nat → Prop} (ht : t < 4) (hn : mi (111 + 2 * t) 2 = nI n) (hn40 : n ≤ 40) (hi : i < n) (hq : Q (ml (112 + 2 * t) i) mi ml z) : CLg l (h + 2) m_Tr_at [.ref (111 + 2 * t), .int (nI i)] mi ml z Q := by
  match t, ht with
  | 0, _ => exact c_Tr_at_111 hn hn40 hi hq
  | 1, _ => exact c_Tr_at_113 hn hn40 hi hq
  | 2, _ => exact c_Tr_at_115 hn hn40 hi hq
  | 3, _ => exact c_Tr_at_117 hn hn40 hi hq
theorem c_nowhere_33 {l : Launch} {h : Nat} {mi : TMi} {ml : TMl} {z : Nat} {a : Ln} {d : Dt} {Q : Int32 → TMi → TMl → Nat → Prop} (ha : okLn a) (hl : LnC mi 18 a) (hc : Cs (mi 34) d) (hq : Q (nI (nowA a d)) mi ml z) : CI l (h + 2) m_Sc_nowhere [.ref 33] mi ml z Q := by
  have hB6 := ha.1
  refine t_Sc_nowhere_33 mi ml z (c_Sc_becksIn_33 (lw := 40) rfl (by decide) hl.1 hB6 ?_)
  rw [enc_congr (q := fun b => oI (dW d b) == (-1 : Int32)) (fun b hb => by rw [hc.1 b (by omega)])]
  exact hq
theorem c_flooded_33 {l : Launch} {h : Nat} {mi : TMi} {ml : TMl} {z : Nat} {a : Ln} {d : Dt} {Q : Int32 → TMi → TMl → Nat → Prop} (ha : okLn a) (hd : okD a d) (hl : LnC mi 18 a) (hc : Cs (mi 34) d) (hq : Q (nI (floA a d)) mi ml z) : CI l (h + 5) m_Sc_flooded [.ref 33] mi ml z Q := by
  have hB6 := ha.1
  exact c_Sc_flooded_33 (f := dF d) (bs := nBs a) hl.1 ha.1 hl.2.1 ha.2.1 (hc.isW ha hd) (fun b hb => hc.2.1 b (by omega)) (fun b _ => (hd.2.1 b).1) (fun r hr => ⟨hl.2.2.2.2.2.2.1 r hr, (ha.2.2.2 r hr).2⟩) hq
theorem c_B_judge {l : Launch} {h : Nat} {mi : TMi} {ml : TMl} {z : Nat} {a : Ln} {d : Dt} {ty : Ty} {x y : Int32} {Q : Int32 → TMi → TMl → Nat → Prop} (hA : CA mi a d) (hT : TrC mi ml ty)
    (hq : ∀ m3, Fr SC mi m3 → Q (jdA a d ty x y) m3 ml z) : CI l (h + 8) m_B_judge [.ref 1, .int x, .int y] mi ml z Q := by
  have ha := hA.1
  unfold jdA noT at hq
  refine t_B_judge mi ml z _ _ (c_isTray (fun c => ⟨fun q => absurd q (by decide), fun _ => ?_⟩) (fun c => ⟨fun _ => ?_, fun q => absurd rfl q⟩))
  · rw [Int32.lt_iff_toInt_lt, Int32.le_iff_toInt_le, show (0 : Int32).toInt = 0 by decide, show (3 : Int32).toInt = 3 by decide]
    have no : ¬ (0 ≤ y.toInt ∧ y.toInt ≤ 3) → Q (-2) mi ml z := fun hn => by
      rw [if_neg hn] at hq
      exact hq mi (Fr.refl _ _)
    refine ⟨fun c2 => no (by omega), fun c2 => ⟨fun c3 => ?_, fun c3 => no (by omega)⟩⟩
    rw [if_pos (show 0 ≤ y.toInt ∧ y.toInt ≤ 3 by omega), if_pos c] at hq
    obtain ⟨ex, ht⟩ := inT_nI c
    generalize x.toInt.toNat = t at ex ht hq
    rw [ex]
    obtain ⟨k1, k2, k3, k4, k5⟩ := hT t ht
    have hin : vp_in (nI t) 4 := in_nI ht (by decide)
    have hcl : (nI t).toNatClampNeg = t := cl_nI (show t < 2 ^ 31 by omega)
    simp only [hcl]
    rw [mr78 z ht]
    refine ⟨hin, ⟨by omega, by omega⟩, shT ht, c_missing ht ?_⟩
    rw [k1, oI_m1 (fun n e => by have := k2 n e; omega)]
    refine ⟨fun q => ⟨fun _ => c_trial hA (fun m1 F1 hc1 hs1 => ⟨hin, ⟨by rw [mr78 z ht]; omega, by rw [mr78 z ht]; omega⟩, ?_⟩), fun c => absurd rfl c⟩, fun q => ⟨fun c => absurd c (by decide), fun _ => by rw [if_pos q] at hq; exact hq mi (Fr.refl _ _)⟩⟩
    rw [if_neg q, if_pos rfl] at hq
    rw [mr78 z ht]
    have hl1 : LnC m1 18 a := hA.2.2.1.fr (fun j hj => F1 _ (by simp; omega))
    refine c_doAll_33 ht (hT.fr (fun n j1 j2 => F1 n (by simp; omega))) ha hA.2.1 hl1 hc1 hs1 (fun m2 F2 hc2 hs2 => ?_)
    rw [mr78 z ht]
    have hl2 : LnC m2 18 a := hl1.fr (fun j hj => F2 _ (by simp; omega))
    have Fs : Fr SC mi m2 := (F1.weak (by simp)).step (F2.weak (by simp))
    have hT2 : m2 (111 + 2 * t) 2 = nI (ty.2.1 t) := by rw [Fs _ (by simp; omega)]; exact k3
    have hok := okD_run (vs := ty.2.2 t) (k := ty.2.1 t) (i := 0) ha hA.2.1
    have hend := runD_end (a := a) (vs := ty.2.2 t) (k := ty.2.1 t) (i := 0) (d := d)
    rw [Nat.zero_add] at hend
    generalize hG : runD a (ty.2.2 t) (ty.2.1 t) 0 d = G at hq hc2 hs2 hok hend ⊢
    have hq2 := hq m2 Fs
    unfold jdG at hq2
    have hle : G.1 ≤ ty.2.1 t := by rcases hend with e | e <;> omega
    rw [hT2, Int32.lt_iff_toInt_lt, nI_toInt (by omega), nI_toInt (by omega)]
    have now : y = 2 → CI l (h + 7) m_Sc_nowhere [.ref 33] m2 ml z (fun x26 mi26 ml26 z26 => Q x26 mi26 ml26 z26) := fun e => by
      rw [if_neg (by rw [e]; decide), if_neg (by rw [e]; decide), if_pos e] at hq2
      exact c_nowhere_33 ha hl2 hc2 hq2
    have flo : ¬ y = 0 → ¬ y = 1 → ¬ y = 2 → CI l (h + 7) m_Sc_flooded [.ref 33] m2 ml z (fun x26 mi26 ml26 z26 => Q x26 mi26 ml26 z26) := fun e0 e1 e2 => by
      rw [if_neg e0, if_neg e1, if_neg e2] at hq2
      exact c_flooded_33 ha hok hl2 hc2 hq2
    refine ⟨hin, ⟨by omega, by omega⟩, shT ht, fun c4 => ?_, fun c4 => ?_⟩
    · rcases hend with e | ⟨e1, e2, e3⟩
      · omega
      refine ⟨fun e => ?_, fun e => ⟨hin, ⟨by omega, by omega⟩, shT ht, c_Tr_at ht hT2 k4 e1 ?_⟩, now, flo⟩
      · rw [if_pos e, if_neg e2] at hq2; exact hq2
      · rw [k5 _ e1]
        refine c_whyNot_33 ha hok hl2 hc2 hs2 (fun m3 F3 _ _ => ?_)
        rw [← e3]
        have hq3 := hq m3 (Fs.step (F3.weak (by simp)))
        unfold jdG at hq3
        rw [if_neg (by rw [e]; decide), if_pos e] at hq3
        exact hq3
    · rcases hend with ⟨e1, e2⟩ | e
      · refine ⟨fun e => ?_, fun e => ?_, now, flo⟩
        · rw [if_pos e, if_pos e2] at hq2; exact hq2
        · rw [if_neg (by rw [e]; decide), if_pos e, e2] at hq2; exact hq2
      · omega
  · rw [if_neg c, if_neg (show ¬ (-2 : Int32) = 0 by decide)] at hq
    have hq := hq mi (Fr.refl _ _)
    split at hq <;> exact hq
theorem c_R_judge {l : Launch} {h : Nat} {mi : TMi} {ml : TMl} {z : Nat} {a : Ln} {d : Dt} {hs : List Dt} {im : Nat → Option (Ln × Dt)} {ty : Ty} {n : Nat} {tp : Nat → Nat} {fk fp x y : Int32} {Q : Int32 → TMi → TMl → Nat → Prop} (hI : IR mi ml a d hs im ty n tp fk fp) (hS : ∀ t, t < 4 → ∀ s, ty.1 t = some s → s < 4) (hN : ∀ t, t < 4 → ty.2.1 t ≤ 40)
    (hq : ∀ m3, (∀ n, n < 119 → m3 n = mi n) → IR m3 ml a d hs im ty n tp fk fp → Q (jdA a d ty x y) m3 ml z) : CI l (h + 8) m_R_judge [.ref 119, .int x, .int y] mi ml z Q := by
  have F0 : FQ mi (up mi 119 0 0) := FQ.u119 _ _ (by decide)
  have hA := hI.1
  have hA0 := hA.q F0
  have hB6 := hA.1.1
  have hT0 : TrR (up mi 119 0 0) ml ty := hI.2.2.2.1.fr (up_ne _ _ _ (by decide)) (up_ne _ _ _ (by decide))
  have hq0 := hq _ (fun q hq => F0.1 q (by omega)) (hI.fr (F0.x hA))
  unfold jdA at hq hq0
  refine t_R_judge mi ml z _ _ (c_R_within ?_)
  rw [t64, show (0 : Int64).toInt = 0 by decide, show (3 : Int64).toInt = 3 by decide, bI_0]
  refine ⟨fun c => c_R_noTray hT0 hS ?_, fun c => ?_⟩
  · rw [Bool.not_eq_false, decide_eq_true_eq] at c
    rw [if_pos c] at hq hq0
    show (noT ty x = 0 → _) ∧ (¬ noT ty x = 0 → _)
    refine ⟨fun c => c_keeps hA0.2.2.2.2 (fun m2 F2 k2 => ?_), fun c => by rw [if_neg c] at hq0; exact hq0⟩
    rw [if_pos c] at hq
    have hx : inT x := by
      by_cases q : inT x
      · exact q
      · unfold noT at c; rw [if_neg q] at c; exact absurd c (by decide)
    obtain ⟨ex, ht⟩ := inT_nI hx
    generalize x.toInt.toNat = t at ex ht hq
    rw [ex]
    have e120 : m2 120 = mi 120 := by rw [F2 120 (by decide)]; exact F0.1 120 (by omega)
    have Fw2 : FRw mi m2 := F0.w.trans (F2.w (fun n hn => by simp; omega))
    refine c_tells ht (hT0.fr (F2 134 (by decide)) (F2 135 (by decide))) (hN t ht) hA.1 hA.2.1 hA.2.2.1 (by rw [e120]; exact hA.2.2.2.1) (hA.2.2.2.2.fr e120) (fun m3 F3 f3 k3 c3 w3 => ?_)
    have hok := okD_run (vs := ty.2.2 t) (k := ty.2.1 t) (i := 0) hA.1 hA.2.1
    generalize runD a (ty.2.2 t) (ty.2.1 t) 0 d = G at hq c3 w3 hok ⊢
    have f03 : F120 mi m3 := (F120.of e120).trans f3
    have hl3 : LnR (m3 120) a := hA.2.2.2.1.fr hA.1 (fun j hj => f03 j (by omega))
    refine c_R_becksIn hl3.1 hB6 (c_floodSet hA.1 hok.v hl3 c3 (c_isAgain (by rw [k3]; exact k2) (fun m4 F4 f4 c4 => ?_)))
    have e9 : m4 119 = m3 119 := F4 119 (by decide)
    have Fw4 : FRw mi m4 := (Fw2.trans F3).trans (F4.w (fun n hn => by simp; omega))
    have hq := hq m4 (fun q hq => Fw4.1 q (by omega)) (hI.fr (FX.w Fw4 (f03.trans f4) c4))
    unfold jdG at hq
    rw [e9, w3]
    refine ⟨fun d0 => ⟨fun d1 => ⟨fun d2 => ?_, fun d2 => ?_⟩, fun d1 => ?_⟩, fun d0 => ⟨fun d1 => ?_, fun d1 => ?_⟩⟩
    · rw [if_neg d0, if_neg d1, if_neg d2] at hq; exact hq
    · rw [if_neg d0, if_neg d1, if_pos d2] at hq
      unfold nowA at hq
      rw [enc_congr (q := fun b => oI (dW G.2.2 b) == (-1 : Int32)) (fun b hb => by rw [show m3 120 (29 + b) = oI (dW G.2.2 b) from c3.1 b (by omega)])]
      exact hq
    · rw [if_neg d0, if_pos d1] at hq; exact hq
    · rw [if_pos d0, if_neg d1] at hq; exact hq
    · rw [if_pos d0, if_pos d1] at hq; exact hq
  · rw [decide_eq_false_iff_not] at c
    rw [if_neg c] at hq0
    exact hq0
