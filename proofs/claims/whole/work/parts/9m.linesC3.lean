/-! ===== the class reads a law's line, a line, all ===== -/
theorem DC_law {mi m : TMi} {a : Ln} {d : Dt} {q c c' : Nat} {f : FF} (h1 : mi 3 0 = nI (nB a)) (h2 : mi 3 1 = nI (nR a)) (h3 : mi 3 2 = nI (nN a)) (h4 : ∀ b, b < nB a → mi 4 b = nI (dF d b) ∧ mi 5 b = nI (nM a b) ∧ mi 6 b = nI (nD a b) ∧ mi 7 b = oI (dW d b)) (h5 : ∀ r, r < nR a → mi 8 r = nI (dR d r) ∧ mi 9 r = nI (nNm a r) ∧ mi 10 r = nI (nBs a r))
    (e : ∀ k, 4 ≤ k → k ≤ 10 → m k = mi k) (s3 : ∀ k, k ≠ 11 → m 3 k = mi 3 k) (k1 : m 3 11 = nI c') (k2 : c' ≤ q) (k3 : c' ≤ 900) (k4 : ∀ j, j < c' → ∃ v : Nat, m 11 j = nI v ∧ v < 14000) (g1 : CLn (m 11) (mi 3 12) c' (nL a)) (g2 : CLn (m 11) (mi 3 13) c' (nT a)) (g3 : CLn (m 11) (nI c) c' f) :
    DC (up m 3 12 (nI c)) (setL a f) d q ∧ DC (up m 3 13 (nI c)) (setT a f) d q := by
  have e4 := e 4 (by decide) (by decide)
  have e5 := e 5 (by decide) (by decide)
  have e6 := e 6 (by decide) (by decide)
  have e7 := e 7 (by decide) (by decide)
  have e8 := e 8 (by decide) (by decide)
  have e9 := e 9 (by decide) (by decide)
  have e10 := e 10 (by decide) (by decide)
  refine ⟨⟨by rw [up_nk _ _ _ (by decide), s3 0 (by decide)]; exact h1, by rw [up_nk _ _ _ (by decide), s3 1 (by decide)]; exact h2, by rw [up_nk _ _ _ (by decide), s3 2 (by decide)]; exact h3, fun b hb => ?_, fun r hr => ?_, c', by rw [up_nk _ _ _ (by decide)]; exact k1, k2, k3, fun j hj => by rw [up_ne _ _ _ (by decide)]; exact k4 j hj, ?_, ?_⟩, by rw [up_nk _ _ _ (by decide), s3 0 (by decide)]; exact h1, by rw [up_nk _ _ _ (by decide), s3 1 (by decide)]; exact h2, by rw [up_nk _ _ _ (by decide), s3 2 (by decide)]; exact h3, fun b hb => ?_, fun r hr => ?_, c', by rw [up_nk _ _ _ (by decide)]; exact k1, k2, k3, fun j hj => by rw [up_ne _ _ _ (by decide)]; exact k4 j hj, ?_, ?_⟩
  · simp (decide := true) only [up_ne]; rw [e4, e5, e6, e7]; exact h4 b hb
  · simp (decide := true) only [up_ne]; rw [e8, e9, e10]; exact h5 r hr
  · rw [up_at, up_ne _ _ _ (by decide)]; exact g3
  · rw [up_nk _ _ _ (by decide), up_ne _ _ _ (by decide), s3 13 (by decide)]; exact g2
  · simp (decide := true) only [up_ne]; rw [e4, e5, e6, e7]; exact h4 b hb
  · simp (decide := true) only [up_ne]; rw [e8, e9, e10]; exact h5 r hr
  · rw [up_nk _ _ _ (by decide), up_ne _ _ _ (by decide), s3 12 (by decide)]; exact g1
  · rw [up_at, up_ne _ _ _ (by decide)]; exact g3
theorem c_Re_readLaw {l : Launch} {h : Nat} {mi : TMi} {ml : TMl} {z n fu : Nat} {tp : Nat → Nat} {s : PS} {a : Ln} {d : Dt} {Q : Int32 → TMi → TMl → Nat → Prop} (hP : CP mi tp n s) (q0 : zF s = 0) (qk : ¬ zK s = 22) (D : DC mi a d (zQ s)) (hf : 16 * n + 16 ≤ fu)
    (hq : ∀ x mi', CP mi' tp n (pLw tp n fu s).1 → Fr DN mi mi' → zQ s ≤ zQ (pLw tp n fu s).1 → (zF (pLw tp n fu s).1 = 0 → DC (up mi' 3 12 x) (setL a (pLw tp n fu s).2) d (zQ (pLw tp n fu s).1) ∧ DC (up mi' 3 13 x) (setT a (pLw tp n fu s).2) d (zQ (pLw tp n fu s).1)) → Q x mi' ml z) : CI l (h + 88) m_Re_readLaw [.ref 13] mi ml z Q := by
  have hn9 := hP.1.2.1
  have ok := hP.2.1
  obtain ⟨h1, h2, h3, h4, h5, c, d1, d2, d3, d4, d5, d6⟩ := D
  have lt := zAdv_lt (tp := tp) ok q0 qk
  unfold pLw at hq
  refine t_Re_readLaw mi ml z (c_To_advance hP (fun m1 F1 P1 => c_To_expect P1 (k := 58) (by decide) (fun m2 F2 P2 => ?_)))
  have l2 := (zXp_Q (tp := tp) (k := 58) P1.2.1).1
  generalize zXp tp n 58 (zAdv tp n s) = s2 at P2 l2 hq
  have F12 : Fr [12] mi m2 := F1.step F2
  obtain ⟨e1, e2, e3, e4⟩ := Fr12 F12
  refine (k_all l tp n fu).1 (h + 87) 0 s2 fOne m2 ml z c _ (show 16 * (n - zQ s2) + 5 ≤ fu by omega) (by decide) (by omega) P2 (by rw [e1]; exact d1) d3 (fun _ => by omega) (fun m3 C3 => ?_)
  generalize pz tp n fu 0 0 s2 fOne = t at C3 hq
  obtain ⟨p1, p2, p3, p4, c1, p5, p6, p7⟩ := C3
  have b2 : zQ t.1 ≤ n := Nat.le_trans p1.2.1.2.1 p1.2.1.1
  refine c_La_addCode p5 p6 (fun m4 c2 F4 s4 k3 k4 k5 => hq _ m4 (p1.fr (Fr311 F4).1 (Fr311 F4).2.1) (((FrD F12).step (p2.weak (by simp))).step (F4.weak (by simp))) (by omega) (fun q => ?_))
  obtain ⟨i1, i2, i3, i4, i5, i6⟩ := p7 q
  have lt9 : c1 < 900 := by omega
  obtain ⟨j1, j2, j3⟩ := k5 lt9
  have ex : m2 3 11 = nI c := by rw [e1]; exact d1
  rw [ex]
  have keep : ∀ j, j < c → m4 11 j = mi 11 j := fun j hj => by rw [j3 j (by omega), i4 j hj, e2]
  have cells : ∀ j, j < c1 + 1 → ∃ v : Nat, m4 11 j = nI v ∧ v < 14000 := fun j hj => by
    by_cases q1 : j < c
    · rw [keep j q1]; exact d4 j q1
    · by_cases q2 : j < c1
      · rw [j3 j (by omega)]; exact i6.2.2.1 j (by omega) q2
      · exact ⟨4000, by rw [show j = c1 by omega]; exact j2, by decide⟩
  have cs : CS (m4 11) c c1 (31 + 2 - 5 * 0) t.2 := i6.fr (fun j _ hj => j3 j (by omega))
  have E : ∀ k, 4 ≤ k → k ≤ 10 → m4 k = mi k := fun k k1 k2 => by rw [F4 k (by simp; omega), p2 k (by simp; omega), F12 k (by simp; omega)]
  rw [j1] at k3
  exact DC_law h1 h2 h3 h4 h5 E (fun k hk => by rw [s4 k hk, p3 k hk, e1]) k3 (by omega) (by omega) cells (d5.grow keep (by omega) (by omega) cells) (d6.grow keep (by omega) (by omega) cells) (cs.cln lt9 (by decide) j2 cells)
theorem c_Re_readLine {l : Launch} {h : Nat} {mi : TMi} {ml : TMl} {z n fu : Nat} {tp : Nat → Nat} {s : PS} {a : Ln} {d : Dt} {Q : TMi → TMl → Nat → Prop} (hP : CP mi tp n s) (q0 : zF s = 0) (qk : ¬ zK s = 22) (D : DC mi a d (zQ s)) (O : okz a d) (hf : 16 * n + 16 ≤ fu) (hq : ∀ mi', LQ tp n mi mi' s (pLi tp n fu s a d) → Q mi' ml z) : CV l (h + 89) m_Re_readLine [.ref 13] mi ml z Q := by
  have k1 : (mi 12 3 = 1) ↔ zK s = 1 := zK_eq hP (k := 1) (by decide)
  have k4 : (mi 12 3 = 4) ↔ zK s = 4 := zK_eq hP (k := 4) (by decide)
  have k11 : (mi 12 3 = 11) ↔ zK s = 11 := zK_eq hP (k := 11) (by decide)
  have k12 : (mi 12 3 = 12) ↔ zK s = 12 := zK_eq hP (k := 12) (by decide)
  refine t_Re_readLine mi ml z ?_
  rw [k1, k4, k11, k12]
  unfold pLi at hq
  refine ⟨fun c => ?_, fun c => ?_, fun c => ?_, fun c => ?_, fun c1 c2 c3 c4 => ?_⟩
  · rw [if_pos c] at hq
    exact c_Re_readBeck (h := h + 79) hP q0 qk D O (by omega) hq
  · rw [if_neg (by omega), if_pos c] at hq
    exact c_Re_readRiver (h := h + 79) hP q0 qk D O (by omega) hq
  · rw [if_neg (by omega), if_neg (by omega), if_pos c] at hq
    exact c_Re_readLaw hP q0 qk D hf (fun x m1 P1 F1 q1 g1 => hq _ ⟨P1.fr (up_ne _ _ _ (by decide)) (up_ne _ _ _ (by decide)), F1.step (FrU _ (by simp) _ _), q1, fun k => ⟨q0, (g1 k).1, okz_L O _⟩⟩)
  · rw [if_neg (by omega), if_neg (by omega), if_neg (by omega), if_pos c] at hq
    exact c_Re_readLaw hP q0 qk D hf (fun x m1 P1 F1 q1 g1 => hq _ ⟨P1.fr (up_ne _ _ _ (by decide)) (up_ne _ _ _ (by decide)), F1.step (FrU _ (by simp) _ _), q1, fun k => ⟨q0, (g1 k).2, okz_T O _⟩⟩)
  · rw [if_neg c1, if_neg c2, if_neg c3, if_neg c4] at hq
    exact c_To_refuse hP (w := 2) (by decide) (by decide) (fun m1 F1 P1 => hq m1 ⟨P1, FrD F1, by dsimp only; rw [zRf_Q]; exact Nat.le_refl _, fun k => absurd k (zRf_n (by decide))⟩)
theorem DC.aN {mi : TMi} {a : Ln} {d : Dt} {q : Nat} (h : DC mi a d q) : DC (up mi 3 2 (mi 3 2 + 1)) (aN a) d q := by
  obtain ⟨h1, h2, h3, h4, h5, c, h6⟩ := h
  refine ⟨by rw [up_nk _ _ _ (by decide)]; exact h1, by rw [up_nk _ _ _ (by decide)]; exact h2, by rw [up_at, h3, nI_1]; rfl, fun b hb => ?_, fun r hr => ?_, c, ?_⟩
  · simp (decide := true) only [up_ne]; exact h4 b hb
  · simp (decide := true) only [up_ne]; exact h5 r hr
  · simp (decide := true) only [up_ne, up_nk]; exact h6
theorem c_allC {l : Launch} {h : Nat} {ml : TMl} {z n fu : Nat} {tp : Nat → Nat} {Q : TMi → TMl → Nat → Prop} (hfu : 16 * n + 16 ≤ fu) : ∀ (f : Nat) (mi : TMi) (i : Nat) (s : PS) (a : Ln) (d : Dt), 0 < f → (zF s = 0 → n - zQ s < f) → CP mi tp n s → (zF s = 0 → i ≤ zQ s ∧ DC mi a d (zQ s) ∧ okz a d) → i ≤ 1000 → (∀ mi', LQ tp n mi mi' s (pLs tp n fu f s a d) → Q mi' ml z) → Ev l (h + 90) m_Re_readAll 34 ([.ref 13, .int (nI i)], [], st mi ml z) (qV Q)
  | 0, mi, i, s, a, d, f0, hf, hP, hD, hi, hq => absurd f0 (Nat.not_lt_zero _)
  | f + 1, mi, i, s, a, d, f0, hf, hP, hD, hi, hq => by
    have hn9 := hP.1.2.1
    have ok := hP.2.1
    have stop : ¬ (zF s = 0 ∧ ¬ zK s = 22) → Q mi ml z := fun c => by
      have e : pLs tp n fu (f + 1) s a d = (s, a, d) := if_neg c
      rw [e] at hq
      exact hq mi ⟨hP, Fr.refl _ _, Nat.le_refl _, fun k => ⟨k, (hD k).2⟩⟩
    refine t_Re_readAll_34 mi ml z _ ⟨fun k => stop (fun c => ?_), fun k9 => ?_⟩
    · have k1 : 900 ≤ i := (leL (by decide) (by omega)).mp k
      have := (hD c.1).1
      exact c.2 (ok.2.2.2.1.mpr (by omega))
    have i9 : i < 900 := by
      have : ¬ 900 ≤ i := fun q => k9 ((leL (by decide) (by omega)).mpr q)
      omega
    refine c_To_goesOn hP (fun q0 qk => ⟨fun e => absurd e (by decide), fun _ => ?_⟩) (fun c => ⟨fun _ => stop c, fun e => absurd rfl e⟩)
    have e : pLs tp n fu (f + 1) s a d = pLs tp n fu f (zXp tp n 59 (pLi tp n fu s a d).1) (aN (pLi tp n fu s a d).2.1) (pLi tp n fu s a d).2.2 := if_pos ⟨q0, qk⟩
    rw [e] at hq
    obtain ⟨D1, D2, O⟩ := hD q0
    have hn : ¬ n ≤ zQ s := fun k => qk (ok.2.2.2.1.mpr k)
    have hfs := hf q0
    refine c_Re_readLine hP q0 qk D2 O hfu (fun m1 C1 => ?_)
    generalize pLi tp n fu s a d = r at C1 hq
    obtain ⟨p1, p2, p3, p4⟩ := C1
    refine c_To_expect p1 (k := 59) (by decide) (fun m2 F2 P2 => ?_)
    obtain ⟨x1, x2⟩ := zXp_Q (tp := tp) (k := 59) p1.2.1
    have x3 : zF (zXp tp n 59 r.1) = 0 → zF r.1 = 0 := fun k => (zXp_0 k).1
    generalize zXp tp n 59 r.1 = s2 at P2 x1 x2 x3 hq
    have nb : zQ s2 ≤ n := Nat.le_trans P2.2.1.2.1 P2.2.1.1
    rw [nI_1]
    refine c_allC hfu f _ (i + 1) s2 _ _ (by omega) (fun k => by have := x2 (by decide) k; omega) (P2.fr (up_ne _ _ _ (by decide)) (up_ne _ _ _ (by decide))) (fun k => ⟨by have := x2 (by decide) k; omega, ((p4 (x3 k)).2.1.fr F2).aN.mono (by omega), okz_N (p4 (x3 k)).2.2⟩) (by omega) (fun m4 C4 => hq m4 (LQ_seq ((p2.step (FrD F2)).step (FrU _ (by simp) _ _)) (by omega) (fun _ => q0) C4))
/-- the whole text: the class -/
theorem c_Re_readAll {l : Launch} {h : Nat} {mi : TMi} {ml : TMl} {z n fu : Nat} {tp : Nat → Nat} {Q : TMi → TMl → Nat → Prop} (hP : CP mi tp n (zTok tp n 0 0)) (hf : 16 * n + 16 ≤ fu)
    (hq : ∀ mi', CP mi' tp n (pAl tp n fu).1 → Fr DN mi mi' → (zF (pAl tp n fu).1 = 0 → DC mi' (pAl tp n fu).2.1 (pAl tp n fu).2.2 900 ∧ okz (pAl tp n fu).2.1 (pAl tp n fu).2.2) → Q mi' ml z) : CV l (h + 90) m_Re_readAll [.ref 13] mi ml z Q := by
  have hn9 := hP.1.2.1
  refine t_Re_readAll mi ml z (t_La_clear_3 mi ml z ?_)
  have F0 : Fr DN mi (up (up (up (up (up (up mi 3 0 0) 3 1 0) 3 2 0) 3 11 0) 3 12 (-1)) 3 13 (-1)) := (((((FrU _ (by simp) _ _).step (FrU _ (by simp) _ _)).step (FrU _ (by simp) _ _)).step (FrU _ (by simp) _ _)).step (FrU _ (by simp) _ _)).step (FrU _ (by simp) _ _)
  have P0 : CP (up (up (up (up (up (up mi 3 0 0) 3 1 0) 3 2 0) 3 11 0) 3 12 (-1)) 3 13 (-1)) tp n (zTok tp n 0 0) := hP.fr (by simp (decide := true) only [up_ne]) (by simp (decide := true) only [up_ne])
  have D0 : DC (up (up (up (up (up (up mi 3 0 0) 3 1 0) 3 2 0) 3 11 0) 3 12 (-1)) 3 13 (-1)) aZ dZ 0 := by
    refine ⟨?_, ?_, ?_, fun b hb => absurd hb (Nat.not_lt_zero _), fun r hr => absurd hr (Nat.not_lt_zero _), 0, ?_, by decide, by decide, fun j hj => absurd hj (Nat.not_lt_zero _), Or.inl ⟨?_, fun _ => rfl⟩, Or.inl ⟨?_, fun _ => rfl⟩⟩
    · simp (decide := true) only [up_nk, up_at]
    · simp (decide := true) only [up_nk, up_at]
    · simp (decide := true) only [up_nk, up_at]
    · simp (decide := true) only [up_nk, up_at]
    · simp (decide := true) only [up_nk, up_at]
    · simp (decide := true) only [up_nk, up_at]
  refine c_To_expect P0 (k := 0) (by decide) (fun m1 F1 P1 => c_To_expect P1 (k := 59) (by decide) (fun m2 F2 P2 => ?_))
  unfold pAl at hq
  generalize zXp tp n 59 (zXp tp n 0 (zTok tp n 0 0)) = s2 at P2 hq
  have D2 : DC m2 aZ dZ 0 := (D0.fr F1).fr F2
  have e32 : m2 3 2 = 0 := D2.2.2.1
  have D3 : DC (up m2 3 2 1) (aN aZ) dZ 0 := by
    have := D2.aN
    rw [e32] at this
    exact this
  refine c_allC hf fu _ 0 s2 (aN aZ) dZ (by omega) (fun _ => by omega) (P2.fr (up_ne _ _ _ (by decide)) (up_ne _ _ _ (by decide))) (fun _ => ⟨Nat.zero_le _, D3.mono (Nat.zero_le _), okz_N okz_Z⟩) (by decide) (fun m4 C4 => ?_)
  obtain ⟨p1, p2, p3, p4⟩ := C4
  have nb : zQ (pLs tp n fu fu s2 (aN aZ) dZ).1 ≤ n := Nat.le_trans p1.2.1.2.1 p1.2.1.1
  exact hq m4 p1 ((((F0.step (FrD F1)).step (FrD F2)).step (FrU _ (by simp) _ _)).step p2) (fun k => ⟨(p4 k).2.1.mono (by omega), (p4 k).2.2⟩)
