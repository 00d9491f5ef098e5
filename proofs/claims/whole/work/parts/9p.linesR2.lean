/-! ===== the reference reads becks and rivers ===== -/
theorem m1_Int : ∀ R, R < 5 → (nI R - 1).toInt = (R : Int) - 1 := by decide +kernel
theorem c_R_readTo {l : Launch} {h : Nat} {mi : TMi} {ml : TMl} {z n b q : Nat} {tp : Nat → Nat} {s : PS} {a : Ln} {d : Dt} {Q : TMi → TMl → Nat → Prop} (hP : RP mi tp n s) (q0 : zF s = 0) (hb : b < 6) (D : DR (mi 123) b (nR a) a d q) (O : okz a d) (eB : nB a = b + 1)
    (hq : ∀ mi', FP mi mi' → RP mi' tp n (pTo tp n b s a d).1 → zQ s ≤ zQ (pTo tp n b s a d).1 → (zF (pTo tp n b s a d).1 = 0 → DR (mi' 123) b (nR a) a (pTo tp n b s a d).2 q ∧ okz a (pTo tp n b s a d).2) → Q mi' ml z) : CV l (h + 8) m_R_readTo [.ref 119, .int (nI b)] mi ml z Q := by
  have ok := hP.2.1
  have hR := O.1.2.1
  refine t_R_readTo mi ml z _ ?_
  rw [show (29 : Int32) + nI b = nI (29 + b) from addL 29 b, cl_nI (by omega)]
  have hin : vp_in (nI (29 + b)) 1371 := in_nI (by omega) (by decide)
  refine ⟨hin, ?_⟩
  have D1 : DR ((up mi 123 (29 + b) (-1)) 123) b (nR a) a (setW d b none) q := by rw [up_self]; exact D.sW (x := none) hb
  have F1 : FP mi (up mi 123 (29 + b) (-1)) := FP_up _ _ _
  have P1 : RP (up mi 123 (29 + b) (-1)) tp n s := hP.up _ _
  have O1 := okz_Wn O b
  generalize up mi 123 (29 + b) (-1) = M at D1 F1 P1
  have e2 : M 123 2 = nI (nR a) := D1.2.2.1
  have hv := ok.2.2.2.2.2.1
  have bad : ∀ w (m : TMi), 0 < w → FP mi m → RP m tp n (zRf w s) → pTo tp n b s a d = (zRf w s, setW d b none) → Q m ml z := fun w m hw F P e => by
    rw [e] at hq
    exact hq m F P (by dsimp only; rw [zRf_Q]; exact Nat.le_refl _) (fun k => absurd k (zRf_n hw))
  have tail : ∀ (m : TMi) (s' : PS), RP m tp n s' → FP mi m → m 123 2 = nI (nR a) → (zNum tp n (nR a) s').1 = (pTo tp n b s a d).1 → (∀ m4, FT m m4 → RP m4 tp n (pTo tp n b s a d).1 → zF (pTo tp n b s a d).1 = 0 → ∀ x, x = nI (zNum tp n (nR a) s').2 → Q (up m4 123 (29 + b) x) ml z) → (∀ m4, FT m m4 → RP m4 tp n (pTo tp n b s a d).1 → ¬ zF (pTo tp n b s a d).1 = 0 → Q m4 ml z) → CI l (h + 7) m_R_takesN [.ref 119, .int 0, .int ((m 123 2) - 1)] m ml z (fun x4 mi4 ml4 z4 => ((¬ (mi4 119 11) = 0 → Q mi4 ml4 z4) ∧ ((mi4 119 11) = 0 → (vp_in (nI (29 + b)) 1371) ∧ Q (up mi4 123 (29 + b) x4) ml4 z4))) := fun m s' P F e e1 k1 k2 => by
    rw [e]
    refine c_R_takesN P (m1_Int _ (by omega)) (fun x m4 F4 P4 x4 => ?_)
    rw [e1] at P4 x4
    rw [zF_r P4]
    exact ⟨fun c => k2 m4 F4 P4 c, fun c => ⟨hin, k1 m4 F4 P4 c x (x4 c)⟩⟩
  refine c_R_is P1 (c := 23) (by decide) rk23 (fun c => ⟨fun e => absurd e (by decide), fun _ => ?_⟩) (fun c => ⟨fun _ => ?_, fun e => absurd rfl e⟩)
  · have e10 : M 119 10 = nI (zV s) := P1.2.2.2.2.2.1 c.2
    rw [e10, e2, nI_leI (by omega) (by omega), ← e2]
    refine ⟨fun c2 => ?_, fun c2 => ?_⟩
    · have ep : pTo tp n b s a d = (zRf 3 s, setW d b none) := by unfold pTo; rw [if_pos c, if_neg (fun k => by omega)]
      have en : (zNum tp n (nR a) s).1 = (pTo tp n b s a d).1 := by rw [ep]; unfold zNum; rw [if_pos c, if_neg (by omega)]
      refine tail M s P1 F1 e2 en (fun m4 F4 P4 k _ _ => ?_) (fun m4 F4 P4 _ => ?_)
      · rw [ep] at k; exact absurd k (zRf_n (by decide))
      · rw [ep] at P4; exact bad 3 m4 (by decide) (F1.trans F4.p) P4 ep
    · refine c_R_inRiver (wo := dW (setW d b none)) hv (fun i hi => (D1.2.2.2.1 i hi).2.2.1) (fun i k e => by have := (O1.2.1.1 i k e).2; omega) ?_
      rw [e10, show (41 : Int32) + nI (zV s) = nI (41 + zV s) from addL 41 (zV s), cl_nI (by omega), (D1.2.2.2.2.1 (zV s) (by omega)).2.2]
      have ec : cnt (inn (dW (setW d b none)) (zV s)) 6 = cnt (inn (dW (setW d b none)) (zV s)) (nB a) := by
        have := cnt_ext (wo := dW (setW d b none)) (r := zV s) (B := nB a) (fun i hi => okz_W0 O1 hi) (6 - nB a)
        rw [show nB a + (6 - nB a) = 6 by omega] at this
        exact this
      have hle := O1.2.1.2.2.2.2 (zV s) (by omega)
      have hle : cnt (inn (dW (setW d b none)) (zV s)) (nB a) ≤ dR d (zV s) := hle
      have h6 := (O.2.1.2.2.1 (zV s)).1
      have edr : dR (setW d b none) (zV s) = dR d (zV s) := rfl
      rw [ec, edr, nI_eq (by omega) (by omega)]
      refine ⟨in_nI (by omega) (by decide), fun c3 => ?_, fun c3 => ?_⟩
      · have ep : pTo tp n b s a d = (zAdv tp n s, setW d b (some (zV s))) := by unfold pTo; rw [if_pos c, if_pos ⟨by omega, by omega⟩]
        have en : zNum tp n (nR a) s = (zAdv tp n s, zV s) := by unfold zNum; rw [if_pos c, if_pos (by omega)]
        refine tail M s P1 F1 e2 (by rw [ep, en]) (fun m4 F4 P4 k x hx => ?_) (fun m4 F4 P4 k => ?_)
        · rw [ep] at hq P4
          refine hq _ ((F1.trans F4.p).trans (FP_up _ _ _)) (P4.up _ _) (zAdv_Q ok) (fun _ => ⟨?_, okz_Ws O (by omega) (by omega) (by omega)⟩)
          rw [up_self, F4.f, hx, en]
          have D2 := D1.sW (x := some (zV s)) hb
          have ew : setW (setW d b none) b (some (zV s)) = setW d b (some (zV s)) := by
            unfold setW
            dsimp only
            refine Prod.ext (funext (fun i => ?_)) rfl
            dsimp only
            by_cases q : i = b
            · rw [if_pos q, if_pos q]
            · rw [if_neg q, if_neg q, if_neg q]
          rw [ew] at D2
          exact D2
        · rw [ep] at k; exact absurd (zAdv_0.mpr q0) k
      · have ep : pTo tp n b s a d = (zRf 3 s, setW d b none) := by unfold pTo; rw [if_pos c, if_neg (fun k => by omega)]
        refine c_R_fails P1 (w := 3) (by decide) (by decide) (fun m2 F2 P2 => ?_)
        have nf : ¬ zF (zRf 3 s) = 0 := zRf_n (by decide)
        have en : (zNum tp n (nR a) (zRf 3 s)).1 = (pTo tp n b s a d).1 := by
          rw [ep]; unfold zNum; rw [if_neg (fun k => nf k.1)]; exact zRf_f nf
        refine tail m2 _ P2 (F1.trans F2.p) (by rw [F2.f]; exact e2) en (fun m4 F4 P4 k _ _ => ?_) (fun m4 F4 P4 _ => ?_)
        · rw [ep] at k; exact absurd k (zRf_n (by decide))
        · rw [ep] at P4; exact bad 3 m4 (by decide) ((F1.trans F2.p).trans F4.p) P4 ep
  · have ep : pTo tp n b s a d = (zRf 2 s, setW d b none) := by unfold pTo; rw [if_neg c]
    have en : (zNum tp n (nR a) s).1 = (pTo tp n b s a d).1 := by rw [ep]; unfold zNum; rw [if_neg c]
    refine tail M s P1 F1 e2 en (fun m4 F4 P4 k _ _ => ?_) (fun m4 F4 P4 _ => ?_)
    · rw [ep] at k; exact absurd k (zRf_n (by decide))
    · rw [ep] at P4; exact bad 2 m4 (by decide) (F1.trans F4.p) P4 ep
theorem rk3 : ∀ j, j < 94 → (rk j = 3 ↔ j = 3) := by decide +kernel
theorem rk4 : ∀ j, j < 94 → (rk j = 4 ↔ j = 7) := by decide +kernel
theorem rk5 : ∀ j, j < 94 → (rk j = 5 ↔ j = 8) := by decide +kernel
theorem rk2 : ∀ j, j < 94 → (rk j = 2 ↔ j = 2) := by decide +kernel
theorem rk7 : ∀ j, j < 94 → (rk j = 7 ↔ j = 9) := by decide +kernel
theorem rk8 : ∀ j, j < 94 → (rk j = 8 ↔ j = 5) := by decide +kernel
theorem rk9 : ∀ j, j < 94 → (rk j = 9 ↔ j = 10) := by decide +kernel
theorem c_R_readFlag {l : Launch} {h : Nat} {mi : TMi} {ml : TMl} {z n b : Nat} {tp : Nat → Nat} {s : PS} {a : Ln} {d : Dt} {Q : Int32 → TMi → TMl → Nat → Prop} (hP : RP mi tp n s) (q0 : zF s = 0) (hb : b < 6) (D : DR (mi 123) b (nR a) a d (zQ s)) (O : okz a d) (eB : nB a = b + 1)
    (hq0 : ¬ zSees 3 s → ¬ zSees 7 s → ¬ zSees 8 s → Q 0 mi ml z)
    (hq1 : ∀ (r : PS × Ln × Dt) (m' : TMi), (∀ f, pFl tp n b (f + 1) s a d = pFl tp n b f r.1 r.2.1 r.2.2) → FP mi m' → RP m' tp n r.1 → zQ s < zQ r.1 → (zF r.1 = 0 → DR (m' 123) b (nR r.2.1) r.2.1 r.2.2 (zQ r.1) ∧ okz r.2.1 r.2.2 ∧ nB r.2.1 = b + 1) → ∀ x, (x = 0 ↔ ¬ zF r.1 = 0) → Q x m' ml z) : CI l (h + 9) m_R_readFlag [.ref 119, .int (nI b)] mi ml z Q := by
  have ok := hP.2.1
  have num : ∀ (lim : Nat) (m1 : TMi), RP m1 tp n (zAdv tp n s) → ¬ zK s = 22 → zQ s < zQ (zNum tp n lim (zAdv tp n s)).1 ∧ (zF (zNum tp n lim (zAdv tp n s)).1 = 0 → (zNum tp n lim (zAdv tp n s)).2 < lim) := fun lim m1 P1 c => by
    have lt := zAdv_lt (tp := tp) ok q0 c
    have q1 := zNum_Q (tp := tp) (k := lim) P1.2.1
    refine ⟨by omega, fun k => ?_⟩
    obtain ⟨y1, y2, y3⟩ := zNum_0 k
    rw [y3]
    exact y2
  refine t_R_readFlag mi ml z _ (c_R_eats hP (c := 3) (by decide) rk3 (fun c m1 F1 P1 => ⟨fun e => absurd e (by decide), fun _ => ?_⟩) (fun c => ⟨fun _ => c_R_eats hP (c := 4) (by decide) rk4 (fun c2 m1 F1 P1 => ⟨fun e => absurd e (by decide), fun _ => ?_⟩) (fun c2 => ⟨fun _ => c_R_eats hP (c := 5) (by decide) rk5 (fun c3 m1 F1 P1 => ⟨fun e => absurd e (by decide), fun _ => ?_⟩) (fun c3 => ⟨fun _ => hq0 c c2 c3, fun e => absurd rfl e⟩), fun e => absurd rfl e⟩), fun e => absurd rfl e⟩))
  · refine c_R_takesN (a2 := 9) (k := 10) P1 (by decide) (fun x m2 F2 P2 x2 => ?_)
    obtain ⟨y1, y2⟩ := num 10 m1 P1 (by rw [c.2]; decide)
    rw [show (9 : Int32) + nI b = nI (9 + b) from addL 9 b, cl_nI (by omega)]
    have P3 : RP (up m2 123 (9 + b) x) tp n (zNum tp n 10 (zAdv tp n s)).1 := P2.up _ _
    refine ⟨in_nI (by omega) (by decide), ?_⟩
    rw [zF_r P3]
    have go := hq1 ((zNum tp n 10 (zAdv tp n s)).1, setM a b (zNum tp n 10 (zAdv tp n s)).2, d) (up m2 123 (9 + b) x) (fun f => if_pos c) ((F1.p.trans F2.p).trans (FP_up _ _ _)) P3 y1 (fun k => ?_)
    · exact ⟨fun k => go 0 ⟨fun _ => k, fun _ => rfl⟩, fun k => go 1 ⟨fun e => absurd e (by decide), fun e => absurd k e⟩⟩
    · have v := y2 k
      rw [up_self, x2 k, F2.f, F1.f]
      exact ⟨(D.sM hb).mono (by dsimp only; omega), okz_M O (by omega) (by omega), eB⟩
  · refine c_R_takesN (a2 := 10) (k := 11) P1 (by decide) (fun x m2 F2 P2 x2 => ?_)
    obtain ⟨y1, y2⟩ := num 11 m1 P1 (by rw [c2.2]; decide)
    rw [show (15 : Int32) + nI b = nI (15 + b) from addL 15 b, cl_nI (by omega)]
    have P3 : RP (up m2 123 (15 + b) x) tp n (zNum tp n 11 (zAdv tp n s)).1 := P2.up _ _
    refine ⟨in_nI (by omega) (by decide), ?_⟩
    rw [zF_r P3]
    have go := hq1 ((zNum tp n 11 (zAdv tp n s)).1, setD a b (zNum tp n 11 (zAdv tp n s)).2, d) (up m2 123 (15 + b) x) (fun f => (if_neg c).trans (if_pos c2)) ((F1.p.trans F2.p).trans (FP_up _ _ _)) P3 y1 (fun k => ?_)
    · exact ⟨fun k => go 0 ⟨fun _ => k, fun _ => rfl⟩, fun k => go 1 ⟨fun e => absurd e (by decide), fun e => absurd k e⟩⟩
    · have v := y2 k
      rw [up_self, x2 k, F2.f, F1.f]
      exact ⟨(D.sD hb).mono (by dsimp only; omega), okz_D O (by omega) (by omega), eB⟩
  · have lt := zAdv_lt (tp := tp) ok c3.1 (by rw [c3.2]; decide)
    refine c_R_readTo (q := zQ s) P1 (zAdv_0.mpr c3.1) hb (by rw [F1.f]; exact D) O eB (fun m2 F2 P2 q2 g2 => ?_)
    rw [zF_r P2]
    have go := hq1 ((pTo tp n b (zAdv tp n s) a d).1, a, (pTo tp n b (zAdv tp n s) a d).2) m2 (fun f => (if_neg c).trans ((if_neg c2).trans (if_pos c3))) (F1.p.trans F2) P2 (by dsimp only; omega) (fun k => ⟨(g2 k).1.mono (by dsimp only; omega), (g2 k).2, eB⟩)
    exact ⟨fun k => go 0 ⟨fun _ => k, fun _ => rfl⟩, fun k => go 1 ⟨fun e => absurd e (by decide), fun e => absurd k e⟩⟩
theorem pFl_f {tp : Nat → Nat} {n b : Nat} {s : PS} {a : Ln} {d : Dt} (h : ¬ zF s = 0) : ∀ f, (pFl tp n b f s a d).1 = s
  | 0 => rfl
  | f + 1 => by
    have e : pFl tp n b (f + 1) s a d = (s, a, d) := (if_neg (fun k => h k.1)).trans ((if_neg (fun k => h k.1)).trans (if_neg (fun k => h k.1)))
    rw [e]
theorem c_flagsR {l : Launch} {h : Nat} {ml : TMl} {z n b : Nat} {tp : Nat → Nat} {Q : TMi → TMl → Nat → Prop} (hb : b < 6) : ∀ (f : Nat) (mi : TMi) (s : PS) (a : Ln) (d : Dt), n - zQ s < f → RP mi tp n s → (zF s = 0 → DR (mi 123) b (nR a) a d (zQ s) ∧ okz a d ∧ nB a = b + 1) → (∀ mi', LR tp n mi mi' s (pFl tp n b f s a d) → Q mi' ml z) → Ev l (h + 10) m_R_readBeck 59 ([.ref 119, .int (nI b)], [], st mi ml z) (qV Q)
  | 0, mi, s, a, d, hf, hP, hD, hq => absurd hf (Nat.not_lt_zero _)
  | f + 1, mi, s, a, d, hf, hP, hD, hq => by
    refine t_R_readBeck_59 mi ml z _ ?_
    rw [zF_r hP]
    refine ⟨fun c => ⟨fun _ => hq mi ⟨by rw [pFl_f c]; exact hP, FP.refl _, by rw [pFl_f c]; exact Nat.le_refl _, fun k => by rw [pFl_f c] at k; exact absurd k c⟩, fun k => absurd k c⟩, fun q0 => ?_⟩
    obtain ⟨D, O, eB⟩ := hD q0
    refine c_R_readFlag hP q0 hb D O eB (fun c1 c2 c3 => ⟨fun _ => ?_, fun e => absurd rfl e⟩) (fun r m' er F P lt g x hx => ?_)
    · rw [zF_r hP]
      have e : pFl tp n b (f + 1) s a d = (s, a, d) := (if_neg c1).trans ((if_neg c2).trans (if_neg c3))
      rw [e] at hq
      refine ⟨fun k => absurd q0 k, fun _ => hq _ ⟨hP.up _ _, FP_up _ _ _, Nat.le_refl _, fun _ => ⟨q0, ?_, O⟩⟩⟩
      rw [up_self, D.2.1, nI_1]
      show DR (upd (mi 123) 1 (nI (b + 1))) (nB a) (nR a) a d (zQ s)
      rw [eB]
      exact D.cB
    · rw [er] at hq
      have nb : zQ r.1 ≤ n := Nat.le_trans P.2.1.2.1 P.2.1.1
      refine ⟨fun e => ?_, fun e => ?_⟩
      · have nf := hx.mp e
        rw [zF_r P]
        exact ⟨fun _ => hq m' ⟨by rw [pFl_f nf]; exact P, F, by rw [pFl_f nf]; omega, fun k => by rw [pFl_f nf] at k; exact absurd k nf⟩, fun k => absurd k nf⟩
      · refine c_flagsR hb f m' r.1 r.2.1 r.2.2 (by omega) P g (fun m4 C4 => hq m4 (LR_seq F (by omega) (fun _ => q0) C4))
theorem c_R_readBeck {l : Launch} {h : Nat} {mi : TMi} {ml : TMl} {z n fu : Nat} {tp : Nat → Nat} {s : PS} {a : Ln} {d : Dt} {Q : TMi → TMl → Nat → Prop} (hP : RP mi tp n s) (q0 : zF s = 0) (qk : ¬ zK s = 22) (D : DR (mi 123) (nB a) (nR a) a d (zQ s)) (O : okz a d) (hf : n < fu) (hq : ∀ mi', LR tp n mi mi' s (pBk tp n fu s a d) → Q mi' ml z) : CV l (h + 11) m_R_readBeck [.ref 119] mi ml z Q := by
  have ok := hP.2.1
  have hB := O.1.1
  unfold pBk at hq
  refine t_R_readBeck mi ml z ?_
  rw [D.2.1, show (nI (nB a) = 6) ↔ nB a = 6 from nI_eq (b := 6) (by omega) (by decide), zF_r hP]
  refine ⟨fun c => ⟨fun _ => ?_, fun k => absurd q0 k⟩, fun c => ?_⟩
  · rw [if_neg c] at hq
    obtain ⟨y1, y2, y3⟩ := zHead (tp := tp) (k := 2) (lim := 10) hP.1.b ok q0 qk
    refine c_R_adv hP q0 (fun m1 F1 P1 => c_eatsF (h := h + 3) P1 (c := 2) (by decide) rk2 (fun m2 F2 P2 => c_R_takesN (a2 := 9) (k := 10) P2 (by decide) (fun x m3 F3 P3 x3 => ?_)))
    rw [show (35 : Int32) + nI (nB a) = nI (35 + nB a) from addL 35 (nB a), cl_nI (by omega)]
    refine ⟨in_nI (by omega) (by decide), ?_⟩
    refine c_flagsR (show nB a < 6 by omega) fu _ _ _ _ (by omega) (P3.up _ _) (fun k => ?_) (fun m4 C4 => hq m4 (LR_seq (((F1.p.trans F2.p).trans F3.p).trans (FP_up _ _ _)) (by omega) (fun _ => q0) C4))
    have v := y3 k
    rw [up_self, x3 k, F3.f, F2.f, F1.f]
    exact ⟨(D.sF (by omega)).mono (by omega), okz_B O (by omega) (by omega), rfl⟩
  · rw [if_pos c] at hq
    refine c_R_fails hP (w := 4) (by decide) (by decide) (fun m1 F1 P1 => ?_)
    rw [zF_r P1]
    exact ⟨fun k => absurd k (zRf_n (by decide)), fun _ => hq m1 ⟨P1, F1.p, by dsimp only; rw [zRf_Q]; exact Nat.le_refl _, fun k => absurd k (zRf_n (by decide))⟩⟩
