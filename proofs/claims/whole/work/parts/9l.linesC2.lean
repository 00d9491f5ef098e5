/-! ===== the class reads becks, rivers, laws, lines, all ===== -/
theorem Fr_up2 {ns : List Nat} {x y : TMi} (F : Fr ns x y) (k j : Nat) (v : Int32) : Fr ns (up x k j v) (up y k j v) := fun n hn => by
  by_cases c : n = k
  · subst c
    funext i
    rw [up_self, up_self, F n hn]
  · rw [up_ne _ _ _ c, up_ne _ _ _ c]; exact F n hn
theorem c_addBeck {l : Launch} {h : Nat} {mi : TMi} {ml : TMl} {z B : Nat} {Q : Int32 → TMi → TMl → Nat → Prop} (h0 : mi 3 0 = nI B) (hB : B ≤ 6) (hq1 : B < 6 → Q (nI B) (up (up (up (up mi 5 B 0) 6 B 0) 7 B (-1)) 3 0 (nI (B + 1))) ml z) (hq0 : B = 6 → Q (-1) mi ml z) : CI l (h + 1) m_La_addBeck [.ref 3] mi ml z Q := by
  refine t_La_addBeck_3 mi ml z ?_
  simp (decide := true) only [up_ne, h0, cl_nI (show B < 2 ^ 31 by omega)]
  show (nI B < nI 6 → _) ∧ (¬ nI B < nI 6 → _)
  rw [nI_ltI (by omega) (by decide), nI_1]
  exact ⟨fun c => ⟨in_nI c (by decide), in_nI c (by decide), in_nI c (by decide), hq1 c⟩, fun c => hq0 (by omega)⟩
theorem c_addRiver {l : Launch} {h : Nat} {mi : TMi} {ml : TMl} {z R : Nat} {Q : Int32 → TMi → TMl → Nat → Prop} (h0 : mi 3 1 = nI R) (hR : R ≤ 4) (hq1 : R < 4 → Q (nI R) (up (up (up mi 9 R 0) 10 R 99) 3 1 (nI (R + 1))) ml z) (hq0 : R = 4 → Q (-1) mi ml z) : CI l (h + 1) m_La_addRiver [.ref 3] mi ml z Q := by
  refine t_La_addRiver_3 mi ml z ?_
  simp (decide := true) only [up_ne, h0, cl_nI (show R < 2 ^ 31 by omega)]
  show (nI R < nI 4 → _) ∧ (¬ nI R < nI 4 → _)
  rw [nI_ltI (by omega) (by decide), nI_1]
  exact ⟨fun c => ⟨in_nI c (by decide), in_nI c (by decide), hq1 c⟩, fun c => hq0 (by omega)⟩
theorem DC.aB {mi : TMi} {a : Ln} {d : Dt} {q v : Nat} (h : DC mi a d q) (O : okz a d) : DC (up (up (up (up (up mi 5 (nB a) 0) 6 (nB a) 0) 7 (nB a) (-1)) 3 0 (nI (nB a + 1))) 4 (nB a) (nI v)) (aB a) (setF d (nB a) v) q := by
  obtain ⟨h1, h2, h3, h4, h5, c, h6⟩ := h
  refine ⟨?_, ?_, ?_, fun i hi => ?_, fun r hr => ?_, c, ?_⟩
  · simp (decide := true) only [up_ne, up_at]; rfl
  · simp (decide := true) only [up_ne, up_nk]; exact h2
  · simp (decide := true) only [up_ne, up_nk]; exact h3
  · have hi : i < nB a + 1 := hi
    simp (decide := true) only [up_ne]
    show up _ 4 (nB a) (nI v) 4 i = nI (if i = nB a then v else dF d i) ∧ up mi 5 (nB a) 0 5 i = nI (nM a i) ∧ up _ 6 (nB a) 0 6 i = nI (nD a i) ∧ up _ 7 (nB a) (-1) 7 i = oI (dW d i)
    by_cases e : i = nB a
    · subst e
      rw [up_at, up_at, up_at, up_at, if_pos rfl, (O.2.2.1 _ (Nat.le_refl _)).1, (O.2.2.1 _ (Nat.le_refl _)).2, okz_W0 O (Nat.le_refl _)]
      exact ⟨rfl, rfl, rfl, rfl⟩
    · rw [up_nk _ _ _ e, up_nk _ _ _ e, up_nk _ _ _ e, up_nk _ _ _ e, if_neg e]
      simp (decide := true) only [up_ne]
      exact h4 i (by omega)
  · simp (decide := true) only [up_ne]; exact h5 r hr
  · simp (decide := true) only [up_ne, up_nk]; exact h6
theorem DC.aR {mi : TMi} {a : Ln} {d : Dt} {q v : Nat} (h : DC mi a d q) (O : okz a d) : DC (up (up (up (up mi 9 (nR a) 0) 10 (nR a) 99) 3 1 (nI (nR a + 1))) 8 (nR a) (nI v)) (setBs (aR a) (nR a) 99) (setR d (nR a) v) q := by
  obtain ⟨h1, h2, h3, h4, h5, c, h6⟩ := h
  refine ⟨?_, ?_, ?_, fun r hr => ?_, fun i hi => ?_, c, ?_⟩
  · simp (decide := true) only [up_ne, up_nk]; exact h1
  · simp (decide := true) only [up_ne, up_at]; rfl
  · simp (decide := true) only [up_ne, up_nk]; exact h3
  · simp (decide := true) only [up_ne]; exact h4 r hr
  · have hi : i < nR a + 1 := hi
    simp (decide := true) only [up_ne]
    show up _ 8 (nR a) (nI v) 8 i = nI (if i = nR a then v else dR d i) ∧ up mi 9 (nR a) 0 9 i = nI (nNm a i) ∧ up _ 10 (nR a) 99 10 i = nI (if i = nR a then 99 else nBs a i)
    by_cases e : i = nR a
    · subst e
      rw [up_at, up_at, up_at, if_pos rfl, if_pos rfl, O.2.2.2.1 _ (Nat.le_refl _)]
      exact ⟨rfl, rfl, rfl⟩
    · rw [up_nk _ _ _ e, up_nk _ _ _ e, up_nk _ _ _ e, if_neg e, if_neg e]
      simp (decide := true) only [up_ne]
      exact h5 i (by omega)
  · simp (decide := true) only [up_ne, up_nk]; exact h6
/-- the head of a line: its word, a word, a number -/
theorem zHead {tp : Nat → Nat} {n k lim : Nat} {s : PS} (hb : ∀ j, j < n → tp j < 256) (ok : okP n s) (q0 : zF s = 0) (qk : ¬ zK s = 22) : zQ s < zQ (zNum tp n lim (zXp tp n k (zAdv tp n s))).1 ∧ zQ (zNum tp n lim (zXp tp n k (zAdv tp n s))).1 ≤ n ∧ (zF (zNum tp n lim (zXp tp n k (zAdv tp n s))).1 = 0 → (zNum tp n lim (zXp tp n k (zAdv tp n s))).2 < lim) := by
  have lt := zAdv_lt (tp := tp) ok q0 qk
  have o1 := zAdv_ok (tp := tp) hb ok
  have l2 := (zXp_Q (tp := tp) (k := k) o1).1
  have o2 := zXp_ok (tp := tp) (k := k) hb o1
  have l3 := zNum_Q (tp := tp) (k := lim) o2
  have o3 := zNum_ok (tp := tp) (k := lim) hb o2
  refine ⟨by omega, Nat.le_trans o3.2.1 o3.1, fun e => ?_⟩
  obtain ⟨y1, y2, y3⟩ := zNum_0 e
  rw [y3]
  exact y2
theorem c_Re_readBeck {l : Launch} {h : Nat} {mi : TMi} {ml : TMl} {z n fu : Nat} {tp : Nat → Nat} {s : PS} {a : Ln} {d : Dt} {Q : TMi → TMl → Nat → Prop} (hP : CP mi tp n s) (q0 : zF s = 0) (qk : ¬ zK s = 22) (D : DC mi a d (zQ s)) (O : okz a d) (hf : n < fu) (hq : ∀ mi', LQ tp n mi mi' s (pBk tp n fu s a d) → Q mi' ml z) : CV l (h + 9) m_Re_readBeck [.ref 13] mi ml z Q := by
  have ok := hP.2.1
  have hB := O.1.1
  unfold pBk at hq
  refine t_Re_readBeck mi ml z (c_addBeck D.1 hB (fun c => ⟨fun _ => ?_, fun e => absurd e (neg1_ne (by omega))⟩) (fun c => ⟨fun e => absurd rfl e, fun _ => ?_⟩))
  · rw [if_neg (by omega)] at hq
    have P0 : CP (up (up (up (up mi 5 (nB a) 0) 6 (nB a) 0) 7 (nB a) (-1)) 3 0 (nI (nB a + 1))) tp n s := hP.fr (by simp (decide := true) only [up_ne]) (by simp (decide := true) only [up_ne])
    have F0 : Fr DN mi (up (up (up (up mi 5 (nB a) 0) 6 (nB a) 0) 7 (nB a) (-1)) 3 0 (nI (nB a + 1))) := (((FrU _ (by simp) _ _).step (FrU _ (by simp) _ _)).step (FrU _ (by simp) _ _)).step (FrU _ (by simp) _ _)
    refine c_To_advance P0 (fun m1 F1 P1 => c_To_expect P1 (k := 2) (by decide) (fun m2 F2 P2 => c_xNum (k := 9) (lim := 10) rfl P2 (by decide) (fun m3 F3 P3 => ⟨in_nI c (by decide), ?_⟩)))
    rw [cl_nI (by omega)]
    obtain ⟨y1, y2, y3⟩ := zHead (tp := tp) (k := 2) (lim := 10) hP.1.b ok q0 qk
    have F4 : Fr [12] _ m3 := (F1.step F2).step F3
    refine c_flagsC c fu _ 0 _ _ _ (by omega) (P3.fr (up_ne _ _ _ (by decide)) (up_ne _ _ _ (by decide))) (Nat.zero_le _) (fun k => ?_) (fun m4 C4 => hq m4 (LQ_seq (F0.step ((FrD F4).step (FrU _ (by simp) _ _))) (by omega) (fun _ => q0) C4))
    have v := y3 k
    exact ⟨((D.aB O).fr (Fr_up2 F4 _ _ _)).mono (by omega), okz_B O c (by omega), rfl⟩
  · rw [if_pos c] at hq
    exact c_To_refuse hP (w := 4) (by decide) (by decide) (fun m1 F1 P1 => hq m1 ⟨P1, FrD F1, by dsimp only; rw [zRf_Q]; exact Nat.le_refl _, fun k => absurd k (zRf_n (by decide))⟩)
theorem c_partsC {l : Launch} {h : Nat} {ml : TMl} {z n r : Nat} {tp : Nat → Nat} {d : Dt} {Q : TMi → TMl → Nat → Prop} (hr : r < 4) : ∀ (f : Nat) (mi : TMi) (i : Nat) (s : PS) (a : Ln), n - zQ s < f → CP mi tp n s → i ≤ zQ s → (zF s = 0 → DC mi a d (zQ s) ∧ okz a d ∧ nR a = r + 1) → (∀ mi', LQ tp n mi mi' s ((pPt tp n r f s a).1, (pPt tp n r f s a).2, d) → Q mi' ml z) → Ev l (h + 8) m_Re_readRiver 58 ([.ref 13, .int (nI r), .int (nI i)], [], st mi ml z) (qV Q)
  | 0, mi, i, s, a, hf, hP, hi, hD, hq => absurd hf (Nat.not_lt_zero _)
  | f + 1, mi, i, s, a, hf, hP, hi, hD, hq => by
    have hn9 := hP.1.2.1
    have ok := hP.2.1
    have stop : ¬ zSees 5 s → ¬ zSees 10 s → Q mi ml z := fun c1 c2 => by
      have e : pPt tp n r (f + 1) s a = (s, a) := (if_neg c1).trans (if_neg c2)
      rw [e] at hq
      exact hq mi ⟨hP, Fr.refl _ _, Nat.le_refl _, fun k => ⟨k, (hD k).1, (hD k).2.1⟩⟩
    have num : ∀ (lim : Nat) (m1 : TMi), CP m1 tp n (zAdv tp n s) → zSees 5 s ∨ zSees 10 s → zQ s < zQ (zNum tp n lim (zAdv tp n s)).1 ∧ zQ (zNum tp n lim (zAdv tp n s)).1 ≤ n ∧ (zF (zNum tp n lim (zAdv tp n s)).1 = 0 → zF s = 0 ∧ (zNum tp n lim (zAdv tp n s)).2 < lim) := fun lim m1 P1 c => by
      have lt : zQ s < zQ (zAdv tp n s) := by
        rcases c with c | c
        · exact zAdv_lt ok c.1 (by rw [c.2]; decide)
        · exact zAdv_lt ok c.1 (by rw [c.2]; decide)
      have q1 := zNum_Q (tp := tp) (k := lim) P1.2.1
      have o := zNum_ok (tp := tp) (k := lim) P1.1.b P1.2.1
      refine ⟨by omega, Nat.le_trans o.2.1 o.1, fun k => ?_⟩
      obtain ⟨y1, y2, y3⟩ := zNum_0 k
      rw [y3]
      exact ⟨zAdv_0.mp y1.1, y2⟩
    refine t_Re_readRiver_58 mi ml z _ _ ⟨fun k => stop (k_900 hP hi (by decide) k) (k_900 hP hi (by decide) k), fun _ => ?_⟩
    refine c_To_sees hP (k := 5) (by decide) (fun c => ⟨fun e => absurd e (by decide), fun _ => ?_⟩) (fun c => ⟨fun _ => c_To_sees hP (k := 10) (by decide) (fun c2 => ⟨fun e => absurd e (by decide), fun _ => ?_⟩) (fun c2 => ⟨fun _ => stop c c2, fun e => absurd rfl e⟩), fun e => absurd rfl e⟩)
    · have e : pPt tp n r (f + 1) s a = pPt tp n r f (zNum tp n 10 (zAdv tp n s)).1 (setNm a r (zNum tp n 10 (zAdv tp n s)).2) := if_pos c
      rw [e] at hq
      refine c_To_advance hP (fun m1 F1 P1 => c_xNum (k := 9) (lim := 10) rfl P1 (by decide) (fun m2 F2 P2 => ⟨in_nI hr (by decide), ?_⟩))
      obtain ⟨y1, y2, y3⟩ := num 10 m1 P1 (Or.inl c)
      rw [cl_nI (by omega), nI_1]
      have F3 : Fr DN mi (up m2 9 r (nI (zNum tp n 10 (zAdv tp n s)).2)) := (FrD F1).step ((FrD F2).step (FrU _ (by simp) r _))
      refine c_partsC hr f _ (i + 1) _ _ (by omega) (P2.fr (up_ne _ _ _ (by decide)) (up_ne _ _ _ (by decide))) (by omega) (fun k => ?_) (fun m4 C4 => hq m4 (LQ_seq F3 (by omega) (fun k => (y3 k).1) C4))
      obtain ⟨z1, z2⟩ := y3 k
      obtain ⟨D, O, eB⟩ := hD z1
      exact ⟨(((D.fr F1).fr F2).sNm).mono (by omega), okz_Nm O (by omega) (by omega), eB⟩
    · have e : pPt tp n r (f + 1) s a = pPt tp n r f (zNum tp n 100 (zAdv tp n s)).1 (setBs a r (zNum tp n 100 (zAdv tp n s)).2) := (if_neg c).trans (if_pos c2)
      rw [e] at hq
      refine c_To_advance hP (fun m1 F1 P1 => c_xNum (k := 99) (lim := 100) rfl P1 (by decide) (fun m2 F2 P2 => ⟨in_nI hr (by decide), ?_⟩))
      obtain ⟨y1, y2, y3⟩ := num 100 m1 P1 (Or.inr c2)
      rw [cl_nI (by omega), nI_1]
      have F3 : Fr DN mi (up m2 10 r (nI (zNum tp n 100 (zAdv tp n s)).2)) := (FrD F1).step ((FrD F2).step (FrU _ (by simp) r _))
      refine c_partsC hr f _ (i + 1) _ _ (by omega) (P2.fr (up_ne _ _ _ (by decide)) (up_ne _ _ _ (by decide))) (by omega) (fun k => ?_) (fun m4 C4 => hq m4 (LQ_seq F3 (by omega) (fun k => (y3 k).1) C4))
      obtain ⟨z1, z2⟩ := y3 k
      obtain ⟨D, O, eB⟩ := hD z1
      exact ⟨(((D.fr F1).fr F2).sBs).mono (by omega), okz_Bs O (by omega), eB⟩
theorem c_Re_readRiver {l : Launch} {h : Nat} {mi : TMi} {ml : TMl} {z n fu : Nat} {tp : Nat → Nat} {s : PS} {a : Ln} {d : Dt} {Q : TMi → TMl → Nat → Prop} (hP : CP mi tp n s) (q0 : zF s = 0) (qk : ¬ zK s = 22) (D : DC mi a d (zQ s)) (O : okz a d) (hf : n < fu) (hq : ∀ mi', LQ tp n mi mi' s (pRv tp n fu s a d) → Q mi' ml z) : CV l (h + 9) m_Re_readRiver [.ref 13] mi ml z Q := by
  have ok := hP.2.1
  have hR := O.1.2.1
  unfold pRv at hq
  refine t_Re_readRiver mi ml z (c_addRiver D.2.1 hR (fun c => ⟨fun _ => ?_, fun e => absurd e (neg1_ne (by omega))⟩) (fun c => ⟨fun e => absurd rfl e, fun _ => ?_⟩))
  · rw [if_neg (by omega)] at hq
    have P0 : CP (up (up (up mi 9 (nR a) 0) 10 (nR a) 99) 3 1 (nI (nR a + 1))) tp n s := hP.fr (by simp (decide := true) only [up_ne]) (by simp (decide := true) only [up_ne])
    have F0 : Fr DN mi (up (up (up mi 9 (nR a) 0) 10 (nR a) 99) 3 1 (nI (nR a + 1))) := ((FrU _ (by simp) _ _).step (FrU _ (by simp) _ _)).step (FrU _ (by simp) _ _)
    refine c_To_advance P0 (fun m1 F1 P1 => c_To_expect P1 (k := 9) (by decide) (fun m2 F2 P2 => c_xNum (k := 6) (lim := 7) rfl P2 (by decide) (fun m3 F3 P3 => ⟨in_nI c (by decide), ?_⟩)))
    rw [cl_nI (by omega)]
    obtain ⟨y1, y2, y3⟩ := zHead (tp := tp) (k := 9) (lim := 7) hP.1.b ok q0 qk
    have F4 : Fr [12] _ m3 := (F1.step F2).step F3
    refine c_partsC (d := setR d (nR a) (zNum tp n 7 (zXp tp n 9 (zAdv tp n s))).2) c fu _ 0 _ (setBs (aR a) (nR a) 99) (by omega) (P3.fr (up_ne _ _ _ (by decide)) (up_ne _ _ _ (by decide))) (Nat.zero_le _) (fun k => ?_) (fun m4 C4 => hq m4 (LQ_seq (F0.step ((FrD F4).step (FrU _ (by simp) _ _))) (by omega) (fun _ => q0) C4))
    have v := y3 k
    exact ⟨((D.aR O).fr (Fr_up2 F4 _ _ _)).mono (by omega), okz_R O c (by omega), rfl⟩
  · rw [if_pos c] at hq
    exact c_To_refuse hP (w := 4) (by decide) (by decide) (fun m1 F1 P1 => hq m1 ⟨P1, FrD F1, by dsimp only; rw [zRf_Q]; exact Nat.le_refl _, fun k => absurd k (zRf_n (by decide))⟩)
