/-! ===== the class takes the draft over; land ===== -/
theorem c_JA_fill {l : Launch} {h : Nat} {mi : TMi} {ml : TMl} {z w lw : Nat} {v : Int32} {Q : TMi → TMl → Nat → Prop} (hw : SH[w]? = some (.inr (0, lw))) (hl : lw < 1000) (hq : ∀ mi', Fr [w] mi mi' → (∀ j, j < lw → mi' w j = v) → Q mi' ml z) : CV l (h + 1) m_JA_fill [.ref w, .int v] mi ml z Q := by
  refine t_JA_fill mi ml z w lw v hw ?_
  refine loop (P := fun i => ∀ m, Fr [w] mi m → (∀ j, j < i → m w j = v) → Ev l (h + 1) m_JA_fill 5 ([.ref w, .int v, .int (nI i), .int (nI lw)], [], st m ml z) (qV Q)) lw (fun m F E => ?_) (fun i hi ih m F E => ?_) mi (Fr.refl _ _) (fun j hj => absurd hj (Nat.not_lt_zero _))
  · exact t_JA_fill_5 m ml z w lw _ _ _ hw ⟨fun _ => hq m F E, fun c => absurd (nI_le (Nat.le_refl _) (by omega)) c⟩
  · refine t_JA_fill_5 m ml z w lw _ _ _ hw ⟨fun c => absurd c (nI_ge hi (by omega)), fun _ => ⟨in_nI hi (by omega), ?_⟩⟩
    rw [cl_nI (by omega), nI_1]
    refine ih _ (F.step (Fr_up _ _ _ _)) (fun j hj => ?_)
    by_cases e : j = i
    · rw [e, up_at]
    · rw [up_nk _ _ _ e]; exact E j (by omega)
theorem c_copyD {l : Launch} {h : Nat} {mi : TMi} {ml : TMl} {z q : Nat} {a : Ln} {d : Dt} {Q : TMi → TMl → Nat → Prop} (hD : DC mi a d q) (hB6 : nB a ≤ 6) (hR4 : nR a ≤ 4) (h8 : okC (mi 26))
    (hq : ∀ mi', Fr [18, 19, 20, 21, 22, 23, 24, 25, 26] mi mi' → LnC mi' 18 a → (∀ b, b < nB a → mi' 19 b = nI (dF d b) ∧ mi' 22 b = oI (dW d b)) → (∀ r, r < nR a → mi' 23 r = nI (dR d r)) → Q mi' ml z) : CV l (h + 1) m_La_copyFrom [.ref 18, .ref 3] mi ml z Q := by
  obtain ⟨h0, h1, h2, h4, h5, n, k1, _, k2, h7, k3, k4⟩ := hD
  refine t_La_copyFrom_18_3 mi ml z ?_
  simp (decide := true) only [up_ne, cp_ne, k1, cl_nI (show n < 2 ^ 31 by omega)]
  refine ⟨⟨by decide, by decide, ?_, by omega, by omega⟩, ?_⟩
  · rw [i32_lt0, nI_toInt (by omega)]; omega
  refine hq _ (fun m hm => ?_) ⟨?_, ?_, ?_, fun b hb => ?_, fun b hb => ?_, fun r hr => ?_, fun r hr => ?_, ?_, n, ?_, k2, ?_, ?_⟩ (fun b hb => ⟨?_, ?_⟩) (fun r hr => ?_)
  · simp only [List.mem_cons, List.mem_nil_iff, or_false, not_or] at hm
    obtain ⟨g0, g1, g2, g3, g4, g5, g6, g7, g8⟩ := hm
    rw [cp_ne _ _ _ _ _ _ g8, cp_ne _ _ _ _ _ _ g7, cp_ne _ _ _ _ _ _ g6, cp_ne _ _ _ _ _ _ g5, cp_ne _ _ _ _ _ _ g4, cp_ne _ _ _ _ _ _ g3, cp_ne _ _ _ _ _ _ g2, cp_ne _ _ _ _ _ _ g1, up_ne _ _ _ g0, up_ne _ _ _ g0, up_ne _ _ _ g0, up_ne _ _ _ g0, up_ne _ _ _ g0, up_ne _ _ _ g0]
  · simp (decide := true) only [cp_ne, up_nk, up_at]; exact h0
  · simp (decide := true) only [cp_ne, up_nk, up_at]; exact h1
  · simp (decide := true) only [cp_ne, up_nk, up_at]; exact h2
  · show cpF _ _ _ _ _ _ 20 b = _
    rw [cp_ne _ _ _ _ _ _ (by decide), cp_ne _ _ _ _ _ _ (by decide), cp_ne _ _ _ _ _ _ (by decide), cp_ne _ _ _ _ _ _ (by decide), cp_ne _ _ _ _ _ _ (by decide), cp_ne _ _ _ _ _ _ (by decide), cp_lt (by omega)]
    simp (decide := true) only [cp_ne, up_ne]
    exact (h4 b hb).2.1
  · show cpF _ _ _ _ _ _ 21 b = _
    rw [cp_ne _ _ _ _ _ _ (by decide), cp_ne _ _ _ _ _ _ (by decide), cp_ne _ _ _ _ _ _ (by decide), cp_ne _ _ _ _ _ _ (by decide), cp_ne _ _ _ _ _ _ (by decide), cp_lt (by omega)]
    simp (decide := true) only [cp_ne, up_ne]
    exact (h4 b hb).2.2.1
  · show cpF _ _ _ _ _ _ 24 r = _
    rw [cp_ne _ _ _ _ _ _ (by decide), cp_ne _ _ _ _ _ _ (by decide), cp_lt (by omega)]
    simp (decide := true) only [cp_ne, up_ne]
    exact (h5 r hr).2.1
  · show cpF _ _ _ _ _ _ 25 r = _
    rw [cp_ne _ _ _ _ _ _ (by decide), cp_lt (by omega)]
    simp (decide := true) only [cp_ne, up_ne]
    exact (h5 r hr).2.2
  · show okC (cpF _ _ _ _ _ _ 26)
    rw [cp_at]
    simp (decide := true) only [cp_ne, up_ne]
    intro j hj
    by_cases e : j < n
    · simp only [e, if_true]; exact h7 j e
    · simp only [e, if_false]; exact h8 j hj
  · simp (decide := true) only [cp_ne, up_nk, up_at]
  · simp (decide := true) only [cp_ne, up_nk, up_at]
    show CLn (cpF _ _ _ _ _ _ 26) _ _ _
    refine k3.cp (fun j hj => ?_)
    rw [cp_lt hj]
    simp (decide := true) only [cp_ne, up_ne]
  · simp (decide := true) only [cp_ne, up_nk, up_at]
    show CLn (cpF _ _ _ _ _ _ 26) _ _ _
    refine k4.cp (fun j hj => ?_)
    rw [cp_lt hj]
    simp (decide := true) only [cp_ne, up_ne]
  · rw [cp_ne _ _ _ _ _ _ (by decide), cp_ne _ _ _ _ _ _ (by decide), cp_ne _ _ _ _ _ _ (by decide), cp_ne _ _ _ _ _ _ (by decide), cp_ne _ _ _ _ _ _ (by decide), cp_ne _ _ _ _ _ _ (by decide), cp_ne _ _ _ _ _ _ (by decide), cp_lt (by omega)]
    simp (decide := true) only [cp_ne, up_ne]
    exact (h4 b hb).1
  · rw [cp_ne _ _ _ _ _ _ (by decide), cp_ne _ _ _ _ _ _ (by decide), cp_ne _ _ _ _ _ _ (by decide), cp_ne _ _ _ _ _ _ (by decide), cp_lt (by omega)]
    simp (decide := true) only [cp_ne, up_ne]
    exact (h4 b hb).2.2.2
  · rw [cp_ne _ _ _ _ _ _ (by decide), cp_ne _ _ _ _ _ _ (by decide), cp_ne _ _ _ _ _ _ (by decide), cp_lt (by omega)]
    simp (decide := true) only [cp_ne, up_ne]
    exact (h5 r hr).1
theorem cp_of (mi : TMi) (a b p n k : Nat) : cpF mi a b 0 p n b k = if p ≤ k ∧ k < p + n then mi a (k - p) else mi b k := by
  show (if b = b then va_cpy (mi a) (mi b) 0 p n else mi b) k = _
  rw [if_pos rfl]
  unfold va_cpy
  rw [Nat.zero_add]
theorem c_Sc_begin {l : Launch} {h : Nat} {mi : TMi} {ml : TMl} {z : Nat} {a : Ln} {d : Dt} {Q : TMi → TMl → Nat → Prop} (hl : LnC mi 18 a) (O : okz a d) (h1 : ∀ b, b < nB a → mi 19 b = nI (dF d b) ∧ mi 22 b = oI (dW d b)) (h2 : ∀ r, r < nR a → mi 23 r = nI (dR d r))
    (hq : ∀ mi', Fr [15, 16, 27, 28, 29, 30, 31, 32] mi mi' → Cs (mi' 27) d → SL_17 mi' a d → Q mi' ml z) : CV l (h + 6) m_Sc_begin [.ref 17] mi ml z Q := by
  obtain ⟨ha, hd, zz1, zz2, zG⟩ := id O
  have hB6 := ha.1
  have hR4 := ha.2.1
  refine t_Sc_begin_17 mi ml z (c_JA_fill sh27 (by decide) (fun m1 F1 E1 => c_JA_fill sh32 (by decide) (fun m2 F2 E2 => ?_)))
  have e27 : ∀ j, j < 40 → m2 27 j = 0 := fun j hj => by rw [F2 27 (by decide)]; exact E1 j hj
  have E0 : ∀ k, k ≠ 27 → k ≠ 32 → m2 k = mi k := fun k k1 k2 => by rw [F2 k (by simpa using k2), F1 k (by simpa using k1)]
  refine loop (P := fun i => ∀ m, Fr [27] m2 m → (∀ j, j < i → m 27 j = oI (dW d j)) → (∀ j, i ≤ j → j < 40 → m 27 j = 0) → Ev l (h + 6) m_Sc_begin 18 ([.ref 17, .int (nI i)], [], st m ml z) (qV Q)) 6 (fun m F G1 G2 => ?_) (fun i hi ih m F G1 G2 => ?_) m2 (Fr.refl _ _) (fun j hj => absurd hj (Nat.not_lt_zero _)) (fun j _ hj => e27 j hj)
  · have e18 : m 18 = mi 18 := by rw [F 18 (by decide), E0 18 (by decide) (by decide)]
    have e0 : m 18 0 = nI (nB a) := by rw [e18]; exact hl.1
    have e1 : (cpF m 19 27 0 6 (nB a)) 18 1 = nI (nR a) := by rw [cp_ne _ _ _ _ _ _ (by decide), e18]; exact hl.2.1
    refine t_Sc_begin_17_18 m ml z _ ⟨fun _ => ?_, fun c => absurd (by decide) c⟩
    rw [e0, cl_nI (by omega), e1, cl_nI (by omega)]
    refine ⟨⟨by decide, by decide, by rw [i32_lt0, nI_toInt (by omega)]; omega, by omega, by omega⟩, ⟨by decide, by decide, by rw [i32_lt0, nI_toInt (by omega)]; omega, by omega, by omega⟩, ?_⟩
    have K : ∀ k, k < 40 → (cpF (cpF m 19 27 0 6 (nB a)) 23 27 0 12 (nR a)) 27 k = if 12 ≤ k ∧ k < 12 + nR a then nI (dR d (k - 12)) else if 6 ≤ k ∧ k < 6 + nB a then nI (dF d (k - 6)) else m 27 k := fun k hk => by
      rw [cp_of, cp_of, cp_ne _ _ _ _ _ _ (by decide)]
      by_cases c1 : 12 ≤ k ∧ k < 12 + nR a
      · rw [if_pos c1, if_pos c1, F 23 (by decide), E0 23 (by decide) (by decide), h2 _ (by omega)]
      · rw [if_neg c1, if_neg c1]
        by_cases c2 : 6 ≤ k ∧ k < 6 + nB a
        · rw [if_pos c2, if_pos c2, F 19 (by decide), E0 19 (by decide) (by decide), (h1 _ (by omega)).1]
        · rw [if_neg c2, if_neg c2]
    have hc : Cs ((cpF (cpF m 19 27 0 6 (nB a)) 23 27 0 12 (nR a)) 27) d := by
      refine ⟨fun b hb => ?_, fun b hb => ?_, fun r hr => ?_, fun b r hb hr => ?_⟩
      · rw [K b (by omega), if_neg (by omega), if_neg (by omega)]; exact G1 b hb
      · rw [K _ (by omega), if_neg (by omega)]
        by_cases c : b < nB a
        · rw [if_pos (by omega), show 6 + b - 6 = b by omega]
        · rw [if_neg (by omega), G2 _ (by omega) (by omega), (hd.2.1 b).2 (by omega)]; rfl
      · rw [K _ (by omega)]
        by_cases c : r < nR a
        · rw [if_pos (by omega), show 12 + r - 12 = r by omega]
        · rw [if_neg (by omega), if_neg (by omega), G2 _ (by omega) (by omega), (hd.2.2.1 r).2 (by omega)]; rfl
      · rw [K _ (by omega), if_neg (by omega), if_neg (by omega), G2 _ (by omega) (by omega), zG]; rfl
    have Fc : ∀ k, k ≠ 27 → k ≠ 32 → (cpF (cpF m 19 27 0 6 (nB a)) 23 27 0 12 (nR a)) k = mi k := fun k k1 k2 => by rw [cp_ne _ _ _ _ _ _ k1, cp_ne _ _ _ _ _ _ k1, F k (by simpa using k1), E0 k k1 k2]
    have e32 : ∀ j, j < 6 → (cpF (cpF m 19 27 0 6 (nB a)) 23 27 0 12 (nR a)) 32 j = nI 0 := fun j hj => by rw [cp_ne _ _ _ _ _ _ (by decide), cp_ne _ _ _ _ _ _ (by decide), F 32 (by decide)]; exact E2 j hj
    generalize cpF (cpF m 19 27 0 6 (nB a)) 23 27 0 12 (nR a) = m3 at hc Fc e32
    have hl1 : LnC m3 18 a := hl.fr (fun j hj => Fc _ (by omega) (by omega))
    have hs1 : SLp m3 28 29 30 31 32 (nB a) (nR a) (fun _ _ => False) (lkD a d) (tkD a d) := ⟨fun b r _ _ hp => hp.elim, fun b hb => ⟨0, e32 b (by omega), Nat.two_pow_pos _, fun r _ hp => hp.elim⟩⟩
    have hm : ∀ b r, b < nB a → r < nR a → Ms m3 27 (nL a) (nT a) (lkD a d) (tkD a d) b r (m3 20 b) (m3 27 (16 + (4 * b + r))) := fun b r hb hr => by
      have e0 : m3 20 b = nI (nM a b) := hl1.2.2.2.1 b hb
      have e1 : m3 27 (6 + b) = nI (dF d b) := hc.2.1 b (by omega)
      have e2 : m3 24 r = nI (nNm a r) := hl1.2.2.2.2.2.1 r hr
      have e3 : m3 27 (16 + (4 * b + r)) = nI (dG d b r) := hc.2.2.2 b r (by omega) (by omega)
      unfold Ms
      rw [e0, e1, e2, e3]
      exact ⟨okW_wds (by omega) (hd.2.1 b).1 (ha.2.2.1 b hb).1 (by omega) (ha.2.2.2 r hr).1 (hd.2.2.2.1 b r), rfl, rfl⟩
    refine c_Sc_measureAll_17 (hl1.ld ha) hm hs1 (fun m4 F4 h4 => hq m4 (fun k hk => ?_) (by rw [F4 27 (by decide)]; exact hc) h4)
    simp only [List.mem_cons, List.mem_nil_iff, or_false, not_or] at hk
    rw [F4 k (by simp; omega), Fc k (by omega) (by omega)]
  · have e0 : m 18 0 = nI (nB a) := by rw [F 18 (by decide), E0 18 (by decide) (by decide)]; exact hl.1
    refine t_Sc_begin_17_18 m ml z _ ⟨fun c => absurd c (ge_no (N := 6) rfl (by decide) hi), fun _ => ?_⟩
    rw [e0, nI_leI (by omega) (by omega), cl_nI (by omega), nI_1]
    have go : ∀ x, x = oI (dW d i) → Ev l (h + 6) m_Sc_begin 18 ([.ref 17, .int (nI (i + 1))], [], st (up m 27 i x) ml z) (qV Q) := fun x hx => by
      refine ih _ (F.step (Fr_up _ _ _ _)) (fun j hj => ?_) (fun j h1 h2 => ?_)
      · by_cases e : j = i
        · rw [e, up_at, hx]
        · rw [up_nk _ _ _ e]; exact G1 j (by omega)
      · rw [up_nk _ _ _ (by omega)]; exact G2 j (by omega) h2
    refine ⟨fun c => ⟨in_nI (by omega) (by decide), go _ ?_⟩, fun c => ⟨in_nI (by omega) (by decide), in_nI (by omega) (by decide), go _ ?_⟩⟩
    · rw [okz_W0 O c]; rfl
    · rw [F 22 (by decide), E0 22 (by decide) (by decide)]; exact (h1 i (by omega)).2
def FUEL : Nat := 14416 + 16
theorem FUEL_ge {n : Nat} (h : n ≤ 900) : 16 * n + 16 ≤ FUEL := by
  have : FUEL = 14432 := rfl
  omega
theorem c_B_land {l : Launch} {h : Nat} {mi : TMi} {ml : TMl} {z : Nat} {a : Ln} {d : Dt} {hs : List Dt} {im : Nat → Option (Ln × Dt)} {ty : Ty} {n : Nat} {tp : Nat → Nat} {fk fp x : Int32} {Q : Int32 → TMi → TMl → Nat → Prop} (hI : IC mi ml a d hs im ty n tp fk fp)
    (hq0 : ¬ (0 ≤ x.toInt ∧ x.toInt ≤ n) → Q (-3) mi ml z)
    (hq1 : ∀ k, x = nI k → k ≤ n → ¬ zF (pAl tp k FUEL).1 = 0 → ∀ m3, (∀ n, 119 ≤ n → m3 n = mi n) → IC m3 ml a d hs im ty 0 tp (nI (zF (pAl tp k FUEL).1)) (nI (zX (pAl tp k FUEL).1)) → Q (-30 - nI (zF (pAl tp k FUEL).1)) m3 ml z)
    (hq2 : ∀ k, x = nI k → k ≤ n → zF (pAl tp k FUEL).1 = 0 → ∀ m3, (∀ n, 119 ≤ n → m3 n = mi n) → okz (pAl tp k FUEL).2.1 (pAl tp k FUEL).2.2 → IC m3 ml (pAl tp k FUEL).2.1 (pAl tp k FUEL).2.2 [] im ty 0 tp 0 (-1) → Q (nI (nN (pAl tp k FUEL).2.1)) m3 ml z) : CI l (h + 91) m_B_land [.ref 1, .int x] mi ml z Q := by
  obtain ⟨i1, i2, i3, i4, i5, i6, i7, i8, i9⟩ := id hI
  have hn9 := i6.2.1
  refine t_B_land mi ml z _ ?_
  rw [i32_lt0, i6.1, Int32.le_iff_toInt_le, nI_toInt (by omega)]
  refine ⟨fun c => hq0 (fun k => by omega), fun c => ⟨fun c2 => ?_, fun c2 => hq0 (fun k => by omega)⟩⟩
  have hx := nI_toNat (x := x) (by omega)
  have hk : x.toInt.toNat ≤ n := by omega
  have hq1 := hq1 _ hx hk
  have hq2 := hq2 _ hx hk
  generalize x.toInt.toNat = k at hx hk hq1 hq2
  rw [hx]
  have hfu := FUEL_ge (n := k) (by omega)
  generalize FUEL = fu at hq1 hq2 hfu
  have e900 : (if (0 : Int32) < (if nI k > nI 900 then nI 900 else nI k) then (if nI k > nI 900 then nI 900 else nI k) else 0) = nI k := by
    rw [if_neg (show ¬ nI k > nI 900 from fun q => by have q : nI 900 < nI k := q; rw [nI_ltI (by decide) (by omega)] at q; omega)]
    by_cases e : k = 0
    · rw [e]; rfl
    · exact if_pos (show nI 0 < nI k from (nI_ltI (by decide) (by omega)).mpr (by omega))
  refine t_To_open mi ml z _ ?_
  rw [e900]
  have Fo : Fr [12] mi (up (up (up (up mi 12 1 (nI k)) 12 2 0) 12 6 0) 12 7 (-1)) := (((Fr_up _ _ _ _).step (Fr_up _ _ _ _)).step (Fr_up _ _ _ _)).step (Fr_up _ _ _ _)
  refine c_tokC (n := k) (tp := tp) (p := 0) (x := 0) ⟨by simp (decide := true) only [up_nk, up_at], by omega, fun j hj => by rw [Fo 2 (by decide)]; exact i6.2.2 j (by omega)⟩ (by simp (decide := true) only [up_nk, up_at]) (Nat.zero_le _) (Nat.zero_le _) (by simp (decide := true) only [up_nk, up_at]) (up_at _ _ _ _) (fun m1 F1 P1 => c_Re_readAll (h := h) P1 hfu (fun m2 P2 F2 G2 => ?_))
  generalize pAl tp k fu = r at P2 G2 hq1 hq2
  have E2 : ∀ j, j ∉ DN → m2 j = mi j := fun j hj => by
    have h12 : j ∉ [12] := fun q => hj (by simp at q ⊢; omega)
    rw [F2 j hj, F1 j h12, Fo j h12]
  obtain ⟨q1, q2, q3, q4, q5, q6, q7, q8⟩ := id P2
  have g6 : (up m2 1 1 0) 12 6 = nI (zF r.1) := by rw [up_ne _ _ _ (by decide)]; exact q7
  have g7 : (up (up m2 1 1 0) 1 5 (nI (zF r.1))) 12 7 = (if zF r.1 = 0 then -1 else nI (zX r.1)) := by rw [up_ne _ _ _ (by decide), up_ne _ _ _ (by decide)]; exact q8
  rw [g6, g7]
  have g5 : (up (up (up m2 1 1 0) 1 5 (nI (zF r.1))) 1 6 (if zF r.1 = 0 then -1 else nI (zX r.1))) 1 5 = nI (zF r.1) := by rw [up_nk _ _ _ (by decide), up_at]
  have U : ∀ j, j ≠ 1 → (up (up (up m2 1 1 0) 1 5 (nI (zF r.1))) 1 6 (if zF r.1 = 0 then -1 else nI (zX r.1))) j = m2 j := fun j hj => by rw [up_ne _ _ _ hj, up_ne _ _ _ hj, up_ne _ _ _ hj]
  have v1 : (up (up (up m2 1 1 0) 1 5 (nI (zF r.1))) 1 6 (if zF r.1 = 0 then -1 else nI (zX r.1))) 1 1 = nI 0 := by rw [up_nk _ _ _ (by decide), up_nk _ _ _ (by decide), up_at]; rfl
  have v6 : (up (up (up m2 1 1 0) 1 5 (nI (zF r.1))) 1 6 (if zF r.1 = 0 then -1 else nI (zX r.1))) 1 6 = (if zF r.1 = 0 then -1 else nI (zX r.1)) := up_at _ _ _ _
  rw [g5]
  generalize up (up (up m2 1 1 0) 1 5 (nI (zF r.1))) 1 6 (if zF r.1 = 0 then -1 else nI (zX r.1)) = m3 at U v1 v6 g5
  have E3 : ∀ j, j ≠ 1 → j ∉ DN → m3 j = mi j := fun j h1 h2 => by rw [U j h1, E2 j h2]
  have f4 := q2.2.2.2.2.2.2.1
  rw [show (nI (zF r.1) = 0) ↔ zF r.1 = 0 from nI_eq (b := 0) (by omega) (by decide)]
  refine ⟨fun k0 => ?_, fun k0 => ?_⟩
  · obtain ⟨D, O⟩ := G2 k0
    rw [if_pos k0] at v6
    rw [k0] at g5
    have D3 : DC m3 r.2.1 r.2.2 900 := by
      unfold DC DK at D ⊢
      rw [U 3 (by decide), U 4 (by decide), U 5 (by decide), U 6 (by decide), U 7 (by decide), U 8 (by decide), U 9 (by decide), U 10 (by decide), U 11 (by decide)]
      exact D
    refine c_copyD D3 O.1.1 O.1.2.1 (by rw [E3 26 (by decide) (by decide)]; exact i1.2.2.1.2.2.2.2.2.2.2.1) (fun m4 F4 hl4 a4 b4 => ?_)
    refine c_Sc_begin (h := h + 84) hl4 O a4 b4 (fun m5 F5 hc5 hs5 => t_Pa_forget _ _ _ ?_)
    have E : ∀ j, j ≠ 1 → j ≠ 42 → j ∉ DN → j < 15 ∨ 33 ≤ j ∨ j = 17 → (up m5 42 3 0) j = mi j := fun j h1 h2 h3 h4 => by rw [up_ne _ _ _ h2, F5 j (by simp; omega), F4 j (by simp; omega), E3 j h1 h3]
    have V : ∀ j, j ≠ 42 → (up m5 42 3 0) j = m5 j := fun j hj => up_ne _ _ _ hj
    have W : ∀ j, j < 15 → j ≠ 0 → (up m5 42 3 0) j = m3 j := fun j hj h0 => by rw [up_ne _ _ _ (by omega), F5 j (by simp; omega), F4 j (by simp; omega)]
    have hl5 : LnC (up m5 42 3 0) 18 r.2.1 := hl4.fr (fun j hj => by rw [V _ (by omega), F5 _ (by simp; omega)])
    have e2 : (up m5 42 3 0) 18 2 = nI (nN r.2.1) := hl5.2.2.1
    rw [e2]
    refine hq2 k0 _ (fun j hj => E j (by omega) (by omega) (by simp; omega) (by omega)) O ⟨⟨O.1, O.2.1, hl5, by rw [V 27 (by decide)]; exact hc5, hs5.fr (V _ (by decide)) (V _ (by decide)) (V _ (by decide)) (V _ (by decide)) (V _ (by decide))⟩, ?_, fun d2 hm => absurd hm (by simp), i4.fr (fun j hj => E j (by omega) (by omega) (by simp; omega) (by omega)), i5.fr (fun j k1 k2 => E j (by omega) (by omega) (by simp; omega) (by omega)), ⟨by rw [W 1 (by decide) (by decide)]; exact v1, by decide, fun j hj => absurd hj (Nat.not_lt_zero _)⟩, by rw [W 1 (by decide) (by decide)]; exact g5, by rw [W 1 (by decide) (by decide)]; exact v6, rfl⟩
    obtain ⟨p0, nx, p1, p2, p3, p4⟩ := i2
    refine ⟨Nat.zero_le _, nx, ?_, p2, ?_, fun j d2 hj => by simp at hj⟩
    · rw [up_nk _ _ _ (by decide), F5 42 (by decide), F4 42 (by decide), E3 42 (by decide) (by decide)]; exact p1
    · rw [up_at]; rfl
  · rw [if_neg k0] at v6
    refine hq1 k0 m3 (fun j hj => E3 j (by omega) (by simp; omega)) ⟨i1.fr (fun j k1 k2 => E3 j (by omega) (by simp; omega)), i2.fr (fun j k1 k2 => E3 j (by omega) (by simp; omega)), i3, i4.fr (fun j hj => E3 j (by omega) (by simp; omega)), i5.fr (fun j k1 k2 => E3 j (by omega) (by simp; omega)), ⟨v1, by decide, fun j hj => absurd hj (Nat.not_lt_zero _)⟩, g5, v6, rfl⟩
