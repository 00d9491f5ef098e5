/-! ===== the reference reads rivers, laws, lines, all ===== -/
theorem pPt_f {tp : Nat → Nat} {n r : Nat} {s : PS} {a : Ln} (h : ¬ zF s = 0) : ∀ f, (pPt tp n r f s a).1 = s
  | 0 => rfl
  | f + 1 => by
    have e : pPt tp n r (f + 1) s a = (s, a) := (if_neg (fun k => h k.1)).trans (if_neg (fun k => h k.1))
    rw [e]
theorem c_partsR {l : Launch} {h : Nat} {ml : TMl} {z n r : Nat} {tp : Nat → Nat} {d : Dt} {Q : TMi → TMl → Nat → Prop} (hr : r < 4) : ∀ (f : Nat) (mi : TMi) (s : PS) (a : Ln), n - zQ s < f → RP mi tp n s → (zF s = 0 → DR (mi 123) (nB a) r a d (zQ s) ∧ okz a d ∧ nR a = r + 1) → (∀ mi', LR tp n mi mi' s ((pPt tp n r f s a).1, (pPt tp n r f s a).2, d) → Q mi' ml z) → Ev l (h + 10) m_R_readRiver 70 ([.ref 119, .int (nI r), .retAddr 0], [], st mi ml z) (qV Q)
  | 0, mi, s, a, hf, hP, hD, hq => absurd hf (Nat.not_lt_zero _)
  | f + 1, mi, s, a, hf, hP, hD, hq => by
    have ok := hP.2.1
    refine t_R_readRiver_70 mi ml z _ ?_
    rw [zF_r hP]
    refine ⟨fun c => ⟨fun _ => hq mi ⟨by rw [pPt_f c]; exact hP, FP.refl _, by rw [pPt_f c]; exact Nat.le_refl _, fun k => by rw [pPt_f c] at k; exact absurd k c⟩, fun k => absurd k c⟩, fun q0 => ?_⟩
    obtain ⟨D, O, eR⟩ := hD q0
    have num : ∀ (lim : Nat) (m1 : TMi), RP m1 tp n (zAdv tp n s) → ¬ zK s = 22 → zQ s < zQ (zNum tp n lim (zAdv tp n s)).1 ∧ zQ (zNum tp n lim (zAdv tp n s)).1 ≤ n ∧ (zF (zNum tp n lim (zAdv tp n s)).1 = 0 → (zNum tp n lim (zAdv tp n s)).2 < lim) := fun lim m1 P1 c => by
      have lt := zAdv_lt (tp := tp) ok q0 c
      have q1 := zNum_Q (tp := tp) (k := lim) P1.2.1
      have o := zNum_ok (tp := tp) (k := lim) P1.1.b P1.2.1
      refine ⟨by omega, Nat.le_trans o.2.1 o.1, fun k => ?_⟩
      obtain ⟨y1, y2, y3⟩ := zNum_0 k
      rw [y3]
      exact y2
    refine c_R_is hP (c := 8) (by decide) rk8 (fun c => ⟨fun _ => c_R_is hP (c := 8) (by decide) rk8 (fun _ => c_R_adv hP q0 (fun m1 F1 P1 => ⟨fun e => absurd e (by decide), fun _ => ?_⟩)) (fun c' => absurd c c'), fun e => absurd e (by decide)⟩) (fun c => ⟨fun e => absurd rfl e, fun _ => c_R_is hP (c := 9) (by decide) rk9 (fun c2 => ⟨fun e => absurd e (by decide), fun _ => c_R_is hP (c := 8) (by decide) rk8 (fun c' => absurd c' c) (fun _ => c_R_adv hP q0 (fun m1 F1 P1 => ⟨fun _ => ?_, fun e => absurd rfl e⟩))⟩) (fun c2 => ⟨fun _ => ?_, fun e => absurd rfl e⟩)⟩)
    · have e : pPt tp n r (f + 1) s a = pPt tp n r f (zNum tp n 10 (zAdv tp n s)).1 (setNm a r (zNum tp n 10 (zAdv tp n s)).2) := if_pos c
      rw [e] at hq
      obtain ⟨y1, y2, y3⟩ := num 10 m1 P1 (by rw [c.2]; decide)
      refine c_R_takesN (a2 := 9) (k := 10) P1 (by decide) (fun x m2 F2 P2 x2 => ?_)
      rw [show (21 : Int32) + nI r = nI (21 + r) from addL 21 r, cl_nI (by omega)]
      refine ⟨in_nI (by omega) (by decide), c_partsR hr f _ _ _ (by omega) (P2.up _ _) (fun k => ?_) (fun m4 C4 => hq m4 (LR_seq ((F1.p.trans F2.p).trans (FP_up _ _ _)) (by omega) (fun _ => q0) C4))⟩
      have v := y3 k
      rw [up_self, x2 k, F2.f, F1.f]
      exact ⟨(D.sNm hr).mono (by omega), okz_Nm O (by omega) (by omega), eR⟩
    · have e : pPt tp n r (f + 1) s a = pPt tp n r f (zNum tp n 100 (zAdv tp n s)).1 (setBs a r (zNum tp n 100 (zAdv tp n s)).2) := (if_neg c).trans (if_pos c2)
      rw [e] at hq
      obtain ⟨y1, y2, y3⟩ := num 100 m1 P1 (by rw [c2.2]; decide)
      refine c_R_takesN (a2 := 99) (k := 100) P1 (by decide) (fun x m2 F2 P2 x2 => ?_)
      rw [show (25 : Int32) + nI r = nI (25 + r) from addL 25 r, cl_nI (by omega)]
      refine ⟨in_nI (by omega) (by decide), c_partsR hr f _ _ _ (by omega) (P2.up _ _) (fun k => ?_) (fun m4 C4 => hq m4 (LR_seq ((F1.p.trans F2.p).trans (FP_up _ _ _)) (by omega) (fun _ => q0) C4))⟩
      have v := y3 k
      rw [up_self, x2 k, F2.f, F1.f]
      exact ⟨(D.sBs hr).mono (by omega), okz_Bs O (by omega), eR⟩
    · rw [zF_r hP]
      have e : pPt tp n r (f + 1) s a = (s, a) := (if_neg c).trans (if_neg c2)
      rw [e] at hq
      refine ⟨fun k => absurd q0 k, fun _ => hq _ ⟨hP.up _ _, FP_up _ _ _, Nat.le_refl _, fun _ => ⟨q0, ?_, O⟩⟩⟩
      rw [up_self, D.2.2.1, nI_1]
      show DR (upd (mi 123) 2 (nI (r + 1))) (nB a) (nR a) a d (zQ s)
      rw [eR]
      exact D.cR
theorem c_R_readRiver {l : Launch} {h : Nat} {mi : TMi} {ml : TMl} {z n fu : Nat} {tp : Nat → Nat} {s : PS} {a : Ln} {d : Dt} {Q : TMi → TMl → Nat → Prop} (hP : RP mi tp n s) (q0 : zF s = 0) (qk : ¬ zK s = 22) (D : DR (mi 123) (nB a) (nR a) a d (zQ s)) (O : okz a d) (hf : n < fu) (hq : ∀ mi', LR tp n mi mi' s (pRv tp n fu s a d) → Q mi' ml z) : CV l (h + 11) m_R_readRiver [.ref 119] mi ml z Q := by
  have ok := hP.2.1
  have hR := O.1.2.1
  unfold pRv at hq
  refine t_R_readRiver mi ml z ?_
  rw [D.2.2.1, show (nI (nR a) = 4) ↔ nR a = 4 from nI_eq (b := 4) (by omega) (by decide), zF_r hP]
  refine ⟨fun c => ⟨fun _ => ?_, fun k => absurd q0 k⟩, fun c => ?_⟩
  · rw [if_neg c] at hq
    obtain ⟨y1, y2, y3⟩ := zHead (tp := tp) (k := 9) (lim := 7) hP.1.b ok q0 qk
    refine c_R_adv hP q0 (fun m1 F1 P1 => c_eatsF (h := h + 3) P1 (c := 7) (by decide) rk7 (fun m2 F2 P2 => c_R_takesN (a2 := 6) (k := 7) P2 (by decide) (fun x m3 F3 P3 x3 => ?_)))
    rw [show (41 : Int32) + nI (nR a) = nI (41 + nR a) from addL 41 (nR a), show (25 : Int32) + nI (nR a) = nI (25 + nR a) from addL 25 (nR a), cl_nI (by omega), cl_nI (by omega)]
    refine ⟨in_nI (by omega) (by decide), in_nI (by omega) (by decide), ?_⟩
    refine c_partsR (d := setR d (nR a) (zNum tp n 7 (zXp tp n 9 (zAdv tp n s))).2) (show nR a < 4 by omega) fu _ _ (setBs (aR a) (nR a) 99) (by omega) ((P3.up _ _).up _ _) (fun k => ?_) (fun m4 C4 => hq m4 (LR_seq ((((F1.p.trans F2.p).trans F3.p).trans (FP_up _ _ _)).trans (FP_up _ _ _)) (by omega) (fun _ => q0) C4))
    have v := y3 k
    rw [up_self, up_self, x3 k, F3.f, F2.f, F1.f]
    exact ⟨((D.sR (v := (zNum tp n 7 (zXp tp n 9 (zAdv tp n s))).2) (show nR a < 4 by omega)).sBs (v := 99) (show nR a < 4 by omega)).mono (by omega), okz_R O (by omega) (by omega), rfl⟩
  · rw [if_pos c] at hq
    refine c_R_fails hP (w := 4) (by decide) (by decide) (fun m1 F1 P1 => ?_)
    rw [zF_r P1]
    exact ⟨fun k => absurd k (zRf_n (by decide)), fun _ => hq m1 ⟨P1, F1.p, by dsimp only; rw [zRf_Q]; exact Nat.le_refl _, fun k => absurd k (zRf_n (by decide))⟩⟩
theorem RLc.fr2 {g g' : Nat → Int32} {w c : Nat} {f : FF} (h : RLc g w c f) (e1 : g' (3 + w) = g (3 + w)) (e2 : g' (5 + w) = g (5 + w)) (e3 : g' (7 + w) = g (7 + w)) (e : ∀ k, 471 ≤ k → k < 471 + c → g' k = g k) : RLc g' w c f := by
  rcases h with ⟨h1, h2⟩ | ⟨h1, fr, cs, h2, h3, h4, h5, h6⟩
  · exact Or.inl ⟨by rw [e1]; exact h1, h2⟩
  · exact Or.inr ⟨by rw [e1]; exact h1, fr, cs, by rw [e2]; exact h2, by rw [e3]; exact h3, h4, fun k hk => by rw [e _ (by omega) (by omega)]; exact h5 k hk, h6⟩
theorem DR_law {g g' : Nat → Int32} {B R : Nat} {a a' : Ln} {d : Dt} {q' c c1 w : Nat} {f : FF} (hw : (w = 0 ∧ a' = setL a f) ∨ (w = 1 ∧ a' = setT a f)) (h1 : g 0 = nI (nN a)) (h2 : g 1 = nI B) (h3 : g 2 = nI R) (h4 : ∀ b, b < 6 → g (9 + b) = nI (nM a b) ∧ g (15 + b) = nI (nD a b) ∧ g (29 + b) = oI (dW d b) ∧ g (35 + b) = nI (dF d b)) (h5 : ∀ r, r < 4 → g (21 + r) = nI (nNm a r) ∧ g (25 + r) = nI (nBs a r) ∧ g (41 + r) = nI (dR d r)) (h6 : ∀ k, 45 ≤ k → k < 470 → g k = 0) (kL : RLc g 0 c (nL a)) (kT : RLc g 1 c (nT a))
    (e : ∀ k, k < 470 → g' k = g k) (e4 : g' 470 = nI c1) (hc : c ≤ c1) (hq : c1 ≤ q') (h9 : c1 ≤ 900) (ec : ∀ j, j < c → g' (471 + j) = g (471 + j)) (hs : RS g' c c1 f) : DR (upd (upd (upd g' (3 + w) 1) (5 + w) (nI c)) (7 + w) (nI (c1 - c))) B R a' d q' := by
  have hw2 : w < 2 := by rcases hw with ⟨hw, _⟩ | ⟨hw, _⟩ <;> omega
  have U : ∀ k, k ≠ 3 + w → k ≠ 5 + w → k ≠ 7 + w → upd (upd (upd g' (3 + w) 1) (5 + w) (nI c)) (7 + w) (nI (c1 - c)) k = g' k := fun k k1 k2 k3 => by rw [upd_ne _ _ k3, upd_ne _ _ k2, upd_ne _ _ k1]
  have u3 : upd (upd (upd g' (3 + w) 1) (5 + w) (nI c)) (7 + w) (nI (c1 - c)) (3 + w) = 1 := by rw [upd_ne _ _ (by omega), upd_ne _ _ (by omega), upd_at]
  have u5 : upd (upd (upd g' (3 + w) 1) (5 + w) (nI c)) (7 + w) (nI (c1 - c)) (5 + w) = nI c := by rw [upd_ne _ _ (by omega), upd_at]
  have u7 : upd (upd (upd g' (3 + w) 1) (5 + w) (nI c)) (7 + w) (nI (c1 - c)) (7 + w) = nI (c1 - c) := upd_at _ _ _
  generalize upd (upd (upd g' (3 + w) 1) (5 + w) (nI c)) (7 + w) (nI (c1 - c)) = G at U u3 u5 u7
  have E : ∀ k, k < 3 ∨ 9 ≤ k → k < 470 → G k = g k := fun k k1 k2 => by rw [U k (by omega) (by omega) (by omega), e k k2]
  have new : RLc G w c1 f := by
    obtain ⟨cs, s1, s2, s3⟩ := hs
    refine Or.inr ⟨by rw [u3]; decide, c, cs, u5, by rw [u7, s1, show c + cs.length - c = cs.length by omega], by omega, fun k hk => ?_, s3⟩
    rw [U _ (by omega) (by omega) (by omega)]
    exact s2 k hk
  have old : ∀ w' f', w' < 2 → w' ≠ w → RLc g w' c f' → RLc G w' c1 f' := fun w' f' hw' hne k => by
    refine (k.fr2 ?_ ?_ ?_ (fun j j1 j2 => ?_)).mono hc
    · rw [U _ (by omega) (by omega) (by omega), e _ (by omega)]
    · rw [U _ (by omega) (by omega) (by omega), e _ (by omega)]
    · rw [U _ (by omega) (by omega) (by omega), e _ (by omega)]
    · rw [U _ (by omega) (by omega) (by omega), show j = 471 + (j - 471) by omega, ec _ (by omega)]
  have base : ∀ x : Ln, nN x = nN a → nM x = nM a → nD x = nD a → nNm x = nNm a → nBs x = nBs a → RLc G 0 c1 (nL x) → RLc G 1 c1 (nT x) → DR G B R x d q' := fun x x1 x2 x3 x4 x5 k0 k1 => by
    refine ⟨by rw [E 0 (by omega) (by omega), x1]; exact h1, by rw [E 1 (by omega) (by omega)]; exact h2, by rw [E 2 (by omega) (by omega)]; exact h3, fun b hb => by rw [E _ (by omega) (by omega), E _ (by omega) (by omega), E _ (by omega) (by omega), E _ (by omega) (by omega), x2, x3]; exact h4 b hb, fun r hr => by rw [E _ (by omega) (by omega), E _ (by omega) (by omega), E _ (by omega) (by omega), x4, x5]; exact h5 r hr, fun k q1 q2 => by rw [E _ (by omega) q2]; exact h6 k q1 q2, c1, by rw [U _ (by omega) (by omega) (by omega)]; exact e4, hq, h9, k0, k1⟩
  rcases hw with ⟨hw, ea⟩ | ⟨hw, ea⟩
  · rw [ea]
    rw [hw] at new
    exact base _ rfl rfl rfl rfl rfl new (old 1 _ (by decide) (by omega) kT)
  · rw [ea]
    rw [hw] at new
    exact base _ rfl rfl rfl rfl rfl (old 0 _ (by decide) (by omega) kL) new
theorem rk31 : ∀ j, j < 94 → (rk j = 31 ↔ j = 58) := by decide +kernel
theorem c_R_readLaw {l : Launch} {h : Nat} {mi : TMi} {ml : TMl} {z n fu w : Nat} {tp : Nat → Nat} {s : PS} {a a' : Ln} {d : Dt} {Q : TMi → TMl → Nat → Prop} (hP : RP mi tp n s) (q0 : zF s = 0) (qk : ¬ zK s = 22) (D : DR (mi 123) (nB a) (nR a) a d (zQ s)) (O : okz a d) (hf : 16 * n + 16 ≤ fu) (hw : (w = 0 ∧ a' = setL a (pLw tp n fu s).2) ∨ (w = 1 ∧ a' = setT a (pLw tp n fu s).2))
    (hq : ∀ mi', LR tp n mi mi' s ((pLw tp n fu s).1, a', d) → Q mi' ml z) : CV l (h + 89) m_R_readLaw [.ref 119, .int (nI w)] mi ml z Q := by
  have hn9 := hP.1.2.1
  have ok := hP.2.1
  have hw2 : w < 2 := by rcases hw with ⟨hw, _⟩ | ⟨hw, _⟩ <;> omega
  have lt := zAdv_lt (tp := tp) ok q0 qk
  have ea : nB a' = nB a ∧ nR a' = nR a ∧ okz a' d := by
    rcases hw with ⟨_, e⟩ | ⟨_, e⟩ <;> rw [e] <;> exact ⟨rfl, rfl, O⟩
  obtain ⟨h1, h2, h3, h4, h5, h6, c, d1, d2, d3, d5, d6⟩ := D
  unfold pLw at hq hw
  refine t_R_readLaw mi ml z _ (c_R_adv hP q0 (fun m1 F1 P1 => ?_))
  have l2 := (zXp_Q (tp := tp) (k := 58) P1.2.1).1
  have fin : ∀ m2, FT m1 m2 → RP m2 tp n (zXp tp n 58 (zAdv tp n s)) → CV l (h + 88) m_R_readSum [.ref 119, .int 0] m2 ml z (fun mi4 ml4 z4 => (((mi4 119 11) = 0 → (vp_in (3 + nI w) 1371) ∧ (vp_in (5 + nI w) 1371) ∧ (vp_in (7 + nI w) 1371) ∧ Q (up (up (up mi4 123 ((3 + nI w).toNatClampNeg) 1) 123 ((5 + nI w).toNatClampNeg) (m2 123 470)) 123 ((7 + nI w).toNatClampNeg) (((up (up mi4 123 ((3 + nI w).toNatClampNeg) 1) 123 ((5 + nI w).toNatClampNeg) (m2 123 470)) 123 470) - (m2 123 470))) ml4 z4) ∧ (¬ (mi4 119 11) = 0 → Q mi4 ml4 z4))) := fun m2 F2 P2 => by
    generalize zXp tp n 58 (zAdv tp n s) = s2 at P2 l2 hq hw
    have F12 : FT mi m2 := F1.trans F2
    have ex : m2 123 470 = nI c := by rw [F12.f]; exact d1
    refine (r_all l tp n fu).1 (h + 88) 0 s2 fOne m2 ml z c _ (show 16 * (n - zQ s2) + 5 ≤ fu by omega) (by decide) (by omega) P2 ex d3 (fun _ => by omega) (fun m3 C3 => ?_)
    generalize pz tp n fu 0 0 s2 fOne = t at C3 hq hw
    obtain ⟨p1, p2, p3, p4, c1, p5, p6, p7⟩ := C3
    have b2 : zQ t.1 ≤ n := Nat.le_trans p1.2.1.2.1 p1.2.1.1
    rw [zF_r p1, show (3 : Int32) + nI w = nI (3 + w) from addL 3 w, show (5 : Int32) + nI w = nI (5 + w) from addL 5 w, show (7 : Int32) + nI w = nI (7 + w) from addL 7 w, cl_nI (by omega), cl_nI (by omega), cl_nI (by omega), ex]
    refine ⟨fun k => ⟨in_nI (by omega) (by decide), in_nI (by omega) (by decide), in_nI (by omega) (by decide), ?_⟩, fun k => hq m3 ⟨p1, F12.p.trans p2, by dsimp only; omega, fun k' => absurd k' k⟩⟩
    obtain ⟨i1, i2, i3, i4, i5⟩ := p7 k
    rw [up_nk _ _ _ (by omega), up_nk _ _ _ (by omega), p5, show nI c1 - nI c = nI (c1 - c) by rw [show c1 = c + (c1 - c) by omega, nI_dif, show c + (c1 - c) - c = c1 - c by omega]]
    refine hq _ ⟨((p1.up _ _).up _ _).up _ _, (((F12.p.trans p2).trans (FP_up _ _ _)).trans (FP_up _ _ _)).trans (FP_up _ _ _), by dsimp only; omega, fun _ => ⟨q0, ?_, ea.2.2⟩⟩
    dsimp only
    rw [ea.1, ea.2.1, up_self, up_self, up_self]
    exact DR_law hw h1 h2 h3 h4 h5 h6 d5 d6 (fun j hj => by rw [p3 j hj, F12.f]) p5 i2 (by omega) p6 (fun j hj => by rw [i4 j hj, F12.f]) i5
  unfold zXp at fin
  refine c_R_eats P1 (c := 31) (by decide) rk31 (fun q m2 F2 P2 => ⟨fun _ => ?_, fun e => absurd e (by decide)⟩) (fun q => ⟨fun e => absurd rfl e, fun _ => ?_⟩)
  · rw [if_pos q] at fin
    exact fin m2 F2 P2
  · rw [if_neg q] at fin
    exact c_R_fails P1 (w := 2) (by decide) (by decide) fin
theorem rk1 : ∀ j, j < 94 → (rk j = 1 ↔ j = 1) := by decide +kernel
theorem rk6 : ∀ j, j < 94 → (rk j = 6 ↔ j = 4) := by decide +kernel
theorem rk10 : ∀ j, j < 94 → (rk j = 10 ↔ j = 11) := by decide +kernel
theorem rk11 : ∀ j, j < 94 → (rk j = 11 ↔ j = 12) := by decide +kernel
theorem c_R_readLine {l : Launch} {h : Nat} {mi : TMi} {ml : TMl} {z n fu : Nat} {tp : Nat → Nat} {s : PS} {a : Ln} {d : Dt} {Q : TMi → TMl → Nat → Prop} (hP : RP mi tp n s) (q0 : zF s = 0) (qk : ¬ zK s = 22) (D : DR (mi 123) (nB a) (nR a) a d (zQ s)) (O : okz a d) (hf : 16 * n + 16 ≤ fu) (hq : ∀ mi', LR tp n mi mi' s (pLi tp n fu s a d) → Q mi' ml z) : CV l (h + 90) m_R_readLine [.ref 119] mi ml z Q := by
  refine t_R_readLine mi ml z ?_
  rw [zF_r hP]
  unfold pLi at hq
  refine ⟨fun _ => c_R_is hP (c := 1) (by decide) rk1 (fun c => ⟨fun e => absurd e (by decide), fun _ => ?_⟩) (fun c => ⟨fun _ => c_R_is hP (c := 6) (by decide) rk6 (fun c2 => ⟨fun e => absurd e (by decide), fun _ => ?_⟩) (fun c2 => ⟨fun _ => c_R_is hP (c := 10) (by decide) rk10 (fun c3 => ⟨fun _ => ?_, fun e => absurd e (by decide)⟩) (fun c3 => ⟨fun e => absurd rfl e, fun _ => c_R_is hP (c := 11) (by decide) rk11 (fun c4 => ⟨fun e => absurd e (by decide), fun _ => ?_⟩) (fun c4 => ⟨fun _ => ?_, fun e => absurd rfl e⟩)⟩), fun e => absurd rfl e⟩), fun e => absurd rfl e⟩), fun k => absurd q0 k⟩
  · rw [if_pos c.2] at hq
    exact c_R_readBeck (h := h + 78) hP q0 qk D O (by omega) hq
  · rw [if_neg (fun e => c ⟨q0, e⟩), if_pos c2.2] at hq
    exact c_R_readRiver (h := h + 78) hP q0 qk D O (by omega) hq
  · rw [if_neg (fun e => c ⟨q0, e⟩), if_neg (fun e => c2 ⟨q0, e⟩), if_pos c3.2] at hq
    have e9 : mi 119 9 - 10 = nI 0 := by rw [hP.2.2.2.1, c3.2]; decide
    rw [e9]
    exact c_R_readLaw hP q0 qk D O hf (Or.inl ⟨rfl, rfl⟩) hq
  · rw [if_neg (fun e => c ⟨q0, e⟩), if_neg (fun e => c2 ⟨q0, e⟩), if_neg (fun e => c3 ⟨q0, e⟩), if_pos c4.2] at hq
    have e9 : mi 119 9 - 10 = nI 1 := by rw [hP.2.2.2.1, c4.2]; decide
    rw [e9]
    exact c_R_readLaw hP q0 qk D O hf (Or.inr ⟨rfl, rfl⟩) hq
  · rw [if_neg (fun e => c ⟨q0, e⟩), if_neg (fun e => c2 ⟨q0, e⟩), if_neg (fun e => c3 ⟨q0, e⟩), if_neg (fun e => c4 ⟨q0, e⟩)] at hq
    exact c_R_fails hP (w := 2) (by decide) (by decide) (fun m1 F1 P1 => hq m1 ⟨P1, F1.p, by dsimp only; rw [zRf_Q]; exact Nat.le_refl _, fun k => absurd k (zRf_n (by decide))⟩)
theorem rk30 : ∀ j, j < 94 → (rk j = 30 ↔ j = 59) := by decide +kernel
theorem c_R_ends {l : Launch} {h : Nat} {mi : TMi} {ml : TMl} {z n : Nat} {tp : Nat → Nat} {s : PS} {Q : TMi → TMl → Nat → Prop} (hP : RP mi tp n s) (hq : ∀ m1, FT mi m1 → RP m1 tp n (zXp tp n 59 s) → Q (up m1 123 0 (m1 123 0 + 1)) ml z) : CV l (h + 8) m_R_ends [.ref 119] mi ml z Q :=
  t_R_ends mi ml z (c_eatsF (K := fun a b c => Q (up a 123 0 (a 123 0 + 1)) b c) hP (c := 30) (by decide) rk30 hq)
