/-! ===== the reference: land ===== -/
theorem c_R_plain {l : Launch} {h : Nat} {mi : TMi} {ml : TMl} {z w lw : Nat} {Q : TMi → TMl → Nat → Prop} (hw : SH[w]? = some (.inr (0, lw))) (hl : 1371 ≤ lw) (hl2 : lw < 10000) (hq : ∀ mi', Fr [w] mi mi' → (∀ k, k < 1371 → mi' w k = if 29 ≤ k ∧ k < 35 then -1 else 0) → (∀ k, 1371 ≤ k → mi' w k = mi w k) → Q mi' ml z) : CV l (h + 1) m_R_plain [.ref w] mi ml z Q := by
  refine t_R_plain mi ml z w lw hw ?_
  refine loop (P := fun i => ∀ m, Fr [w] mi m → (∀ j, j < i → m w j = 0) → (∀ k, 1371 ≤ k → m w k = mi w k) → Ev l (h + 1) m_R_plain 2 ([.ref w, .int (nI i)], [], st m ml z) (qV Q)) 1371 (fun m F E G => ?_) (fun i hi ih m F E G => ?_) mi (Fr.refl _ _) (fun j hj => absurd hj (Nat.not_lt_zero _)) (fun _ _ => rfl)
  · refine t_R_plain_2 m ml z w lw _ hw ⟨fun _ => ?_, fun c => absurd (by decide) c⟩
    refine loop (P := fun i => ∀ m, Fr [w] mi m → (∀ k, k < 1371 → m w k = if 29 ≤ k ∧ k < 29 + i then -1 else 0) → (∀ k, 1371 ≤ k → m w k = mi w k) → Ev l (h + 1) m_R_plain 21 ([.ref w, .int (nI i)], [], st m ml z) (qV Q)) 6 (fun m F E G => ?_) (fun i hi ih m F E G => ?_) m F (fun k hk => by rw [E k hk, if_neg (by omega)]) G
    · exact t_R_plain_21 m ml z w lw _ hw ⟨fun _ => hq m F E G, fun c => absurd (by decide) c⟩
    · refine t_R_plain_21 m ml z w lw _ hw ⟨fun c => absurd c (ge_no (N := 6) rfl (by decide) hi), fun _ => ?_⟩
      rw [show (29 : Int32) + nI i = nI (29 + i) from addL 29 i, cl_nI (by omega), nI_1]
      refine ⟨in_nI (by omega) (by omega), ih _ (F.step (Fr_up _ _ _ _)) (fun k hk => ?_) (fun k hk => by rw [up_nk _ _ _ (by omega)]; exact G k hk)⟩
      by_cases e : k = 29 + i
      · rw [e, up_at, if_pos (by omega)]
      · rw [up_nk _ _ _ e, E k hk]
        by_cases c : 29 ≤ k ∧ k < 29 + i
        · rw [if_pos c, if_pos (by omega)]
        · rw [if_neg c, if_neg (by omega)]
  · refine t_R_plain_2 m ml z w lw _ hw ⟨fun c => absurd c (ge_no (N := 1371) rfl (by decide) hi), fun _ => ⟨in_nI (by omega) (by omega), ?_⟩⟩
    rw [cl_nI (by omega), nI_1]
    refine ih _ (F.step (Fr_up _ _ _ _)) (fun j hj => ?_) (fun k hk => by rw [up_nk _ _ _ (by omega)]; exact G k hk)
    by_cases e : j = i
    · rw [e, up_at]
    · rw [up_nk _ _ _ e]; exact E j (by omega)
theorem c_land141 {l : Launch} {h : Nat} {mi : TMi} {ml : TMl} {z : Nat} {Q : Int32 → TMi → TMl → Nat → Prop} (hq : ∀ mi', Fr [120] mi mi' → (∀ k, k < 1371 → mi' 120 k = mi 123 k) → (∀ k, 1371 ≤ k → mi' 120 k = mi 120 k) → Q (mi 123 0) mi' ml z) : Ev l (h + 1) m_R_land 141 ([.ref 119, .retAddr 0, .int 0], [], st mi ml z) (qI Q) := by
  refine loop (P := fun i => ∀ m, Fr [120] mi m → (∀ k, k < i → m 120 k = mi 123 k) → (∀ k, 1371 ≤ k → m 120 k = mi 120 k) → Ev l (h + 1) m_R_land 141 ([.ref 119, .retAddr 0, .int (nI i)], [], st m ml z) (qI Q)) 1371 (fun m F E G => ?_) (fun i hi ih m F E G => ?_) mi (Fr.refl _ _) (fun j hj => absurd hj (Nat.not_lt_zero _)) (fun _ _ => rfl)
  · refine t_R_land_141 m ml z _ ⟨fun _ => ?_, fun c => absurd (by decide) c⟩
    rw [E 0 (by decide)]
    exact hq m F E G
  · refine t_R_land_141 m ml z _ ⟨fun c => absurd c (ge_no (N := 1371) rfl (by decide) hi), fun _ => ⟨in_nI hi (by decide), in_nI (by omega) (by decide), ?_⟩⟩
    rw [cl_nI (by omega), nI_1, F 123 (by decide)]
    refine ih _ (F.step (Fr_up _ _ _ _)) (fun k hk => ?_) (fun k hk => by rw [up_nk _ _ _ (by omega)]; exact G k hk)
    by_cases e : k = i
    · rw [e, up_at]
    · rw [up_nk _ _ _ e]; exact E k (by omega)
/-- behind the last line -/
def FinR (l : Launch) (h : Nat) (ml : TMl) (z : Nat) (Q : Int32 → TMi → TMl → Nat → Prop) (mi : TMi) (F X : Nat) : Prop := (¬ F = 0 → Q (-30 - nI F) (up (up mi 119 13 (nI F)) 119 14 (nI X)) ml z) ∧ (F = 0 → Ev l (h + 91) m_R_land 141 ([.ref 119, .retAddr 0, .int 0], [], st (up (up mi 119 13 0) 119 14 (-1)) ml z) (qI Q))
theorem rk24 : ∀ j, j < 94 → (rk j = 24 ↔ j = 22) := by decide +kernel
theorem pLs_f {tp : Nat → Nat} {n fu : Nat} {s : PS} {a : Ln} {d : Dt} (h : ¬ zF s = 0) : ∀ f, pLs tp n fu f s a d = (s, a, d)
  | 0 => rfl
  | f + 1 => if_neg (fun k => h k.1)
theorem c_allR {l : Launch} {h : Nat} {ml : TMl} {z n fu : Nat} {tp : Nat → Nat} {Q : Int32 → TMi → TMl → Nat → Prop} (hfu : 16 * n + 16 ≤ fu) : ∀ (f : Nat) (mi : TMi) (s : PS) (a : Ln) (d : Dt), 0 < f → (zF s = 0 → n - zQ s < f) → RP mi tp n s → (zF s = 0 → DR (mi 123) (nB a) (nR a) a d (zQ s) ∧ okz a d) → (∀ mi', LR tp n mi mi' s (pLs tp n fu f s a d) → FinR l h ml z Q mi' (zF (pLs tp n fu f s a d).1) (zX (pLs tp n fu f s a d).1)) → Ev l (h + 91) m_R_land 70 ([.ref 119, .retAddr 0, .retAddr 0], [], st mi ml z) (qI Q)
  | 0, mi, s, a, d, f0, hf, hP, hD, hq => absurd f0 (Nat.not_lt_zero _)
  | f + 1, mi, s, a, d, f0, hf, hP, hD, hq => by
    have ok := hP.2.1
    have f4 := ok.2.2.2.2.2.2.1
    have e11 := hP.2.2.2.2.2.2.1
    refine t_R_land_70 mi ml z ?_
    have g1 : ∀ x, (up mi 119 13 x) 119 11 = nI (zF s) := fun x => by rw [up_nk _ _ _ (by decide)]; exact e11
    have g2 : ∀ x y, (up (up mi 119 13 x) 119 14 y) 119 11 = nI (zF s) := fun x y => by rw [up_nk _ _ _ (by decide)]; exact g1 x
    have eF : (nI (zF s) = 0) ↔ zF s = 0 := nI_eq (b := 0) (by omega) (by decide)
    rw [g1, g2, g2, e11, eF, show (mi 119 9 = 24) ↔ zK s = 22 from zK_r hP (c := 24) (by decide) rk24]
    have stop : ¬ (zF s = 0 ∧ ¬ zK s = 22) → FinR l h ml z Q mi (zF s) (zX s) := fun c => by
      have e : pLs tp n fu (f + 1) s a d = (s, a, d) := if_neg c
      rw [e] at hq
      exact hq mi ⟨hP, FP.refl _, Nat.le_refl _, fun k => ⟨k, hD k⟩⟩
    refine ⟨fun c => ⟨fun _ => ⟨fun k => absurd k c, fun _ => ?_⟩, fun k => absurd k c⟩, fun q0 => ⟨fun c => ⟨fun k => absurd q0 k, fun _ => ⟨fun _ => ?_, fun k => absurd q0 k⟩⟩, fun c => ?_⟩⟩
    · have := (stop (fun k => c k.1)).1 c
      rw [up_nk _ _ _ (by decide), hP.2.2.2.2.2.2.2 c]
      exact this
    · have := (stop (fun k => k.2 c)).2 q0
      rw [q0]
      exact this
    · have e : pLs tp n fu (f + 1) s a d = pLs tp n fu f (zXp tp n 59 (pLi tp n fu s a d).1) (aN (pLi tp n fu s a d).2.1) (pLi tp n fu s a d).2.2 := if_pos ⟨q0, c⟩
      rw [e] at hq
      obtain ⟨D, O⟩ := hD q0
      have hn : ¬ n ≤ zQ s := fun k => c (ok.2.2.2.1.mpr k)
      have hfs := hf q0
      refine c_R_readLine hP q0 c D O hfu (fun m1 C1 => ?_)
      generalize pLi tp n fu s a d = r at C1 hq
      obtain ⟨p1, p2, p3, p4⟩ := C1
      refine c_R_ends (h := h + 82) p1 (fun m2 F2 P2 => ?_)
      obtain ⟨x1, x2⟩ := zXp_Q (tp := tp) (k := 59) p1.2.1
      have x3 : zF (zXp tp n 59 r.1) = 0 → zF r.1 = 0 := fun k => (zXp_0 k).1
      generalize zXp tp n 59 r.1 = s2 at P2 x1 x2 x3 hq
      have nb : zQ s2 ≤ n := Nat.le_trans P2.2.1.2.1 P2.2.1.1
      refine c_allR hfu f _ s2 _ _ (by omega) (fun k => by have := x2 (by decide) k; omega) (P2.up _ _) (fun k => ?_) (fun m4 C4 => hq m4 (LR_seq ((p2.trans F2.p).trans (FP_up _ _ _)) (by omega) (fun _ => q0) C4))
      obtain ⟨_, y2, y3⟩ := p4 (x3 k)
      rw [up_self, F2.f]
      exact ⟨y2.cN.mono (by omega), okz_N y3⟩
theorem rk0 : ∀ j, j < 94 → (rk j = 0 ↔ j = 0) := by decide +kernel
theorem DR.ext {g g' : Nat → Int32} {B R : Nat} {a : Ln} {d : Dt} {q : Nat} (h : DR g B R a d q) (e : ∀ k, k < 1371 → g' k = g k) : DR g' B R a d q := by
  obtain ⟨h1, h2, h3, h4, h5, h6, c, k1, k2, k3, k4, k5⟩ := h
  exact ⟨by rw [e _ (by omega)]; exact h1, by rw [e _ (by omega)]; exact h2, by rw [e _ (by omega)]; exact h3, fun b hb => by rw [e _ (by omega), e _ (by omega), e _ (by omega), e _ (by omega)]; exact h4 b hb, fun r hr => by rw [e _ (by omega), e _ (by omega), e _ (by omega)]; exact h5 r hr, fun k q1 q2 => by rw [e _ (by omega)]; exact h6 k q1 q2, c, by rw [e _ (by omega)]; exact k1, k2, k3, k4.fr (by decide) (fun j hj => e _ (by omega)), k5.fr (by decide) (fun j hj => e _ (by omega))⟩
theorem DR_Z {g : Nat → Int32} (e : ∀ k, k < 1371 → g k = if 29 ≤ k ∧ k < 35 then -1 else 0) : DR g 0 0 aZ dZ 0 := by
  have z : ∀ k, k < 1371 → k < 29 ∨ 35 ≤ k → g k = 0 := fun k h1 h2 => by rw [e k h1, if_neg (by omega)]
  have y : ∀ k, k < 6 → g (29 + k) = -1 := fun k hk => by rw [e _ (by omega), if_pos (by omega)]
  exact ⟨z _ (by omega) (by omega), z _ (by omega) (by omega), z _ (by omega) (by omega), fun b hb => ⟨z _ (by omega) (by omega), z _ (by omega) (by omega), y b hb, z _ (by omega) (by omega)⟩, fun r hr => ⟨z _ (by omega) (by omega), z _ (by omega) (by omega), z _ (by omega) (by omega)⟩, fun k k1 k2 => z _ (by omega) (by omega), 0, z _ (by omega) (by omega), by decide, by decide, Or.inl ⟨z _ (by omega) (by omega), fun _ => rfl⟩, Or.inl ⟨z _ (by omega) (by omega), fun _ => rfl⟩⟩
theorem DR.ln {g : Nat → Int32} {a : Ln} {d : Dt} {q : Nat} (h : DR g (nB a) (nR a) a d q) (O : okz a d) : LnR g a := by
  obtain ⟨h1, h2, h3, h4, h5, h6, c, k1, k2, k3, k4, k5⟩ := h
  have l1 := O.1.1
  have l2 := O.1.2.1
  exact ⟨h2, h3, h1, fun b hb => (h4 b (by omega)).1, fun b hb => (h4 b (by omega)).2.1, fun r hr => (h5 r (by omega)).1, fun r hr => (h5 r (by omega)).2.1, k4.law k3, k5.law k3⟩
theorem DR.cr {g : Nat → Int32} {a : Ln} {d : Dt} {q : Nat} (h : DR g (nB a) (nR a) a d q) (O : okz a d) : Cr (fun k => g (29 + k)) d := by
  obtain ⟨h1, h2, h3, h4, h5, h6, _⟩ := h
  refine ⟨fun b hb => (h4 b hb).2.2.1, fun b hb => ?_, fun r hr => ?_, fun b r hb hr => ?_⟩
  · dsimp only
    rw [show 29 + (6 + b) = 35 + b by omega]; exact (h4 b hb).2.2.2
  · dsimp only
    rw [show 29 + (12 + r) = 41 + r by omega]; exact (h5 r hr).2.2
  · dsimp only
    rw [h6 _ (by omega) (by omega), O.2.2.2.2]; rfl
theorem c_R_land {l : Launch} {h : Nat} {mi : TMi} {ml : TMl} {z : Nat} {a : Ln} {d : Dt} {hs : List Dt} {im : Nat → Option (Ln × Dt)} {ty : Ty} {n : Nat} {tp : Nat → Nat} {fk fp x : Int32} {Q : Int32 → TMi → TMl → Nat → Prop} (hI : IR mi ml a d hs im ty n tp fk fp) (hn9 : n ≤ 900) (hb : ∀ j, j < n → tp j < 256)
    (hq0 : ¬ (0 ≤ x.toInt ∧ x.toInt ≤ n) → ∀ m3, (∀ n, n < 119 → m3 n = mi n) → IR m3 ml a d hs im ty n tp fk fp → Q (-3) m3 ml z)
    (hq1 : ∀ k, x = nI k → k ≤ n → ¬ zF (pAl tp k FUEL).1 = 0 → ∀ m3, (∀ n, n < 119 → m3 n = mi n) → IR m3 ml a d hs im ty 0 tp (nI (zF (pAl tp k FUEL).1)) (nI (zX (pAl tp k FUEL).1)) → Q (-30 - nI (zF (pAl tp k FUEL).1)) m3 ml z)
    (hbd : ∀ k, x = nI k → k ≤ n → zF (pAl tp k FUEL).1 = 0 → bdLn (pAl tp k FUEL).2.1)
    (hq2 : ∀ k, x = nI k → k ≤ n → zF (pAl tp k FUEL).1 = 0 → ∀ m3, (∀ n, n < 119 → m3 n = mi n) → IR m3 ml (pAl tp k FUEL).2.1 (pAl tp k FUEL).2.2 [] im ty 0 tp 0 (-1) → Q (nI (nN (pAl tp k FUEL).2.1)) m3 ml z) : CI l (h + 91) m_R_land [.ref 119, .int x] mi ml z Q := by
  have F0 : FQ mi (up mi 119 0 0) := FQ.u119 _ _ (by decide)
  have hI0 := hI.fr (F0.x hI.1)
  have L0 : ∀ k, k < 119 → (up mi 119 0 0) k = mi k := fun k hk => up_ne _ _ _ (by omega)
  refine t_R_land mi ml z _ ?_
  generalize up mi 119 0 0 = m0 at hI0 L0 ⊢
  obtain ⟨r1, r2, r3, r4, r5, r6, r7⟩ := id hI0
  refine c_R_within ?_
  rw [r5.1, Int32.toInt_toInt64 x, nI_64 (by omega), show ((0 : Int64)).toInt = 0 by decide, bI_0]
  refine ⟨fun c => ?_, fun c => hq0 (of_decide_eq_false c) m0 L0 hI0⟩
  rw [Bool.not_eq_false] at c
  have c := of_decide_eq_true c
  have hx := nI_toNat (x := x) (by omega)
  have hk : x.toInt.toNat ≤ n := by omega
  have hq1 := hq1 _ hx hk
  have hq2 := hq2 _ hx hk
  have hbd := hbd _ hx hk
  generalize x.toInt.toNat = k at hx hk hq1 hq2 hbd
  rw [hx]
  have hfu := FUEL_ge (n := k) (by omega)
  generalize FUEL = fu at hq1 hq2 hfu hbd
  have A1 : ∀ j, j ≠ 119 → (up (up (up (up m0 119 8 (nI k)) 119 5 0) 119 7 0) 119 11 0) j = m0 j := fun j hj => by rw [up_ne _ _ _ hj, up_ne _ _ _ hj, up_ne _ _ _ hj, up_ne _ _ _ hj]
  have A2 : ∀ j, j ≠ 8 → j ≠ 5 → j ≠ 7 → j ≠ 11 → (up (up (up (up m0 119 8 (nI k)) 119 5 0) 119 7 0) 119 11 0) 119 j = m0 119 j := fun j h1 h2 h3 h4 => by rw [up_nk _ _ _ h4, up_nk _ _ _ h3, up_nk _ _ _ h2, up_nk _ _ _ h1]
  have A8 : (up (up (up (up m0 119 8 (nI k)) 119 5 0) 119 7 0) 119 11 0) 119 8 = nI k := by simp (decide := true) only [up_nk, up_at]
  have A5 : (up (up (up (up m0 119 8 (nI k)) 119 5 0) 119 7 0) 119 11 0) 119 5 = 0 := by simp (decide := true) only [up_nk, up_at]
  have A7 : (up (up (up (up m0 119 8 (nI k)) 119 5 0) 119 7 0) 119 11 0) 119 7 = 0 := by simp (decide := true) only [up_nk, up_at]
  have A11 : (up (up (up (up m0 119 8 (nI k)) 119 5 0) 119 7 0) 119 11 0) 119 11 = 0 := by simp (decide := true) only [up_nk, up_at]
  generalize up (up (up (up m0 119 8 (nI k)) 119 5 0) 119 7 0) 119 11 0 = A at A1 A2 A8 A5 A7 A11
  refine c_R_plain sh123 (by decide) (by decide) (fun m1 F1 E1 _ => ?_)
  have f119 : m1 119 = A 119 := F1 119 (by decide)
  have T1 : TkR m1 tp k := ⟨by rw [f119]; exact A8, by omega, fun j hj => ⟨by rw [F1 122 (by decide), A1 122 (by decide)]; exact r5.2 j (by omega), hb j (by omega)⟩⟩
  refine c_tokR (p := 0) (x := 0) T1 (by rw [f119]; exact A7) (Nat.zero_le _) (Nat.zero_le _) (by rw [f119]; exact A11) (fun m2 F2 P2 => c_eatsF (h := h + 83) P2 (c := 0) (by decide) rk0 (fun m3 F3 P3 => c_R_ends (h := h + 82) P3 (fun m4 F4 P4 => ?_)))
  have D1 : DR (m1 123) 0 0 aZ dZ 0 := DR_Z E1
  have D4 : DR ((up m4 123 0 (m4 123 0 + 1)) 123) 0 0 (aN aZ) dZ 0 := by rw [up_self, F4.f, F3.f, F2.f]; exact D1.cN
  have F5 : FP m1 (up m4 123 0 (m4 123 0 + 1)) := ((F2.p.trans F3.p).trans F4.p).trans (FP_up _ _ _)
  have P5 : RP (up m4 123 0 (m4 123 0 + 1)) tp k (zXp tp k 59 (zXp tp k 0 (zTok tp k 0 0))) := P4.up _ _
  generalize up m4 123 0 (m4 123 0 + 1) = m5 at D4 F5 P5
  unfold pAl at hq1 hq2 hbd
  generalize zXp tp k 59 (zXp tp k 0 (zTok tp k 0 0)) = s2 at P5 hq1 hq2 hbd
  refine c_allR hfu fu m5 s2 (aN aZ) dZ (by omega) (fun _ => by omega) P5 (fun _ => ⟨D4.mono (Nat.zero_le _), okz_N okz_Z⟩) (fun m6 C6 => ?_)
  generalize pLs tp k fu fu s2 (aN aZ) dZ = r at C6 hq1 hq2 hbd
  obtain ⟨p1, p2, p3, p4⟩ := C6
  have F6 : FP m1 m6 := F5.trans p2
  have E : ∀ j, j ≠ 119 → j ≠ 123 → m6 j = m0 j := fun j h1 h2 => by rw [F6.1 j h1 h2, F1 j (by simpa using h2), A1 j h1]
  have S : ∀ j, j ≠ 5 → j < 6 ∨ 13 ≤ j → m6 119 j = m0 119 j := fun j h1 h2 => by rw [F6.2 j (by omega), f119, A2 j (by omega) h1 (by omega) (by omega)]
  have s5 : m6 119 5 = nI 0 := by rw [F6.2 5 (by omega), f119, A5]; rfl
  refine ⟨fun c0 => ?_, fun c0 => ?_⟩
  · have U : ∀ j, j ≠ 119 → (up (up m6 119 13 (nI (zF r.1))) 119 14 (nI (zX r.1))) j = m6 j := fun j hj => by rw [up_ne _ _ _ hj, up_ne _ _ _ hj]
    have e120 : (up (up m6 119 13 (nI (zF r.1))) 119 14 (nI (zX r.1))) 120 = m0 120 := by rw [U 120 (by decide), E 120 (by decide) (by decide)]
    have e121 : (up (up m6 119 13 (nI (zF r.1))) 119 14 (nI (zX r.1))) 121 = m0 121 := by rw [U 121 (by decide), E 121 (by decide) (by decide)]
    refine hq1 c0 _ (fun j hj => by rw [U j (by omega), E j (by omega) (by omega)]; exact L0 j hj) ⟨⟨r1.1, r1.2.1, r1.2.2.1, by rw [e120]; exact r1.2.2.2.1, r1.2.2.2.2.fr e120⟩, by rw [e120]; exact r2, ?_, r4.fr (by rw [U 134 (by decide), E 134 (by decide) (by decide)]) (by rw [U 135 (by decide), E 135 (by decide) (by decide)]), ⟨by rw [up_nk _ _ _ (by decide), up_nk _ _ _ (by decide)]; exact s5, fun j hj => absurd hj (Nat.not_lt_zero _)⟩, by rw [up_nk _ _ _ (by decide), up_at], up_at _ _ _ _⟩
    unfold ImR at r3 ⊢
    rw [e120, e121]
    exact r3
  · have U : ∀ j, j ≠ 119 → (up (up m6 119 13 0) 119 14 (-1)) j = m6 j := fun j hj => by rw [up_ne _ _ _ hj, up_ne _ _ _ hj]
    obtain ⟨_, D6, O6⟩ := p4 c0
    refine c_land141 (h := h + 90) (fun m7 F7 E7 G7 => ?_)
    have f7 : m7 119 = (up (up m6 119 13 0) 119 14 (-1)) 119 := F7 119 (by decide)
    have V : ∀ j, j ≠ 119 → j ≠ 120 → m7 j = m6 j := fun j h1 h2 => by rw [F7 j (by simpa using h2), U j h1]
    have D7 : DR (m7 120) (nB r.2.1) (nR r.2.1) r.2.1 r.2.2 (zQ r.1) := D6.ext (fun j hj => by rw [E7 j hj, U 123 (by decide)])
    have e0 : (up (up m6 119 13 0) 119 14 (-1)) 123 0 = nI (nN r.2.1) := by rw [U 123 (by decide)]; exact D6.1
    have G : ∀ j, 1371 ≤ j → m7 120 j = m0 120 j := fun j hj => by rw [G7 j hj, U 120 (by decide), E 120 (by decide) (by decide)]
    rw [e0]
    refine hq2 c0 m7 (fun j hj => by rw [V j (by omega) (by omega), E j (by omega) (by omega)]; exact L0 j hj) ⟨⟨O6.1, O6.2.1, hbd c0, D7.ln O6, D7.cr O6⟩, ⟨D7.2.2.2.2.2.1 69 (by omega) (by omega), fun j d2 hj => by simp at hj⟩, fun i hi => ?_, r4.fr (by rw [V 134 (by decide) (by decide), E 134 (by decide) (by decide)]) (by rw [V 135 (by decide) (by decide), E 135 (by decide) (by decide)]), ⟨by rw [f7, up_nk _ _ _ (by decide), up_nk _ _ _ (by decide)]; exact s5, fun j hj => absurd hj (Nat.not_lt_zero _)⟩, by rw [f7, up_nk _ _ _ (by decide), up_at], by rw [f7, up_at]⟩
    obtain ⟨k1, k2⟩ := r3 i hi
    refine ⟨by rw [V 121 (by decide) (by decide), E 121 (by decide) (by decide)]; exact k1, fun a' d' e => ?_⟩
    have g1 : (fun j => m7 120 (1371 * (i + 1) + j)) = (fun j => m0 120 (1371 * (i + 1) + j)) := funext (fun j => G _ (by omega))
    have g2 : (fun j => m7 120 (1371 * (i + 1) + (29 + j))) = (fun j => m0 120 (1371 * (i + 1) + (29 + j))) := funext (fun j => G _ (by omega))
    rw [g1, g2]
    exact k2 a' d' e
