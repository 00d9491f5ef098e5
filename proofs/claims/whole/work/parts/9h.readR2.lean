/-! ===== the reference reads a law ===== -/
theorem rk_term : ∀ j, j < 94 → (rk j = 34 ↔ j = 42) := by decide +kernel
theorem r_termL {l : Launch} {tp : Nat → Nat} {n f : Nat} (hA : KR l tp n f m_R_readAtom 2 0) (hL : KRL l tp n f m_R_readTerm [] 7 1) : KRL l tp n (f + 1) m_R_readTerm [] 7 1 := by
  intro H d s a mi ml z c0 c Q hm hd hH hP h11 hc hz hq
  obtain ⟨h, rfl⟩ : ∃ h, H = h + 13 := ⟨H - 13, by omega⟩
  refine t_R_readTerm_5 mi ml z _ (c_R_eats hP (c := 34) (by decide) rk_term (fun q m1 F1 P1 => ⟨fun e => absurd e (by decide), fun _ => ?_⟩) (fun q => ⟨fun _ => ?_, fun e => absurd rfl e⟩))
  · have e : pz tp n (f + 1) 7 d s a = pz tp n f 7 d (pz tp n f 2 d (zAdv tp n s) a).1 (fun W => opV 3002 (a W) ((pz tp n f 2 d (zAdv tp n s) a).2 W)) := if_pos q
    rw [e] at hq
    exact r_body hA hL (by decide) (by decide) (by decide) (by decide) (by decide) (by decide) hm hd hH hP h11 hc hz q.1 (by rw [q.2]; decide) F1 P1 hq
  · have e : pz tp n (f + 1) 7 d s a = (s, a) := if_neg q
    rw [e] at hq
    exact hq mi (r_stop hP h11 hc hz)
theorem rk_truth : ∀ j, j < 94 → (rk j = 18 ↔ j = 19) := by decide +kernel
theorem r_truthL {l : Launch} {tp : Nat → Nat} {n f : Nat} (hA : KR l tp n f m_R_readBoth 4 4) (hL : KRL l tp n f m_R_readTruth [] 8 5) : KRL l tp n (f + 1) m_R_readTruth [] 8 5 := by
  intro H d s a mi ml z c0 c Q hm hd hH hP h11 hc hz hq
  obtain ⟨h, rfl⟩ : ∃ h, H = h + 13 := ⟨H - 13, by omega⟩
  refine t_R_readTruth_5 mi ml z _ (c_R_eats hP (c := 18) (by decide) rk_truth (fun q m1 F1 P1 => ⟨fun e => absurd e (by decide), fun _ => ?_⟩) (fun q => ⟨fun _ => ?_, fun e => absurd rfl e⟩))
  · have e : pz tp n (f + 1) 8 d s a = pz tp n f 8 d (pz tp n f 4 d (zAdv tp n s) a).1 (fun W => opV 3008 (a W) ((pz tp n f 4 d (zAdv tp n s) a).2 W)) := if_pos q
    rw [e] at hq
    exact r_body hA hL (by decide) (by decide) (by decide) (by decide) (by decide) (by decide) hm hd hH hP h11 hc hz q.1 (by rw [q.2]; decide) F1 P1 hq
  · have e : pz tp n (f + 1) 8 d s a = (s, a) := if_neg q
    rw [e] at hq
    exact hq mi (r_stop hP h11 hc hz)
theorem rk_both : ∀ j, j < 94 → (rk j = 17 ↔ j = 18) := by decide +kernel
theorem r_bothL {l : Launch} {tp : Nat → Nat} {n f : Nat} (hA : KR l tp n f m_R_readUnit 5 3) (hL : KRL l tp n f m_R_readBoth [] 9 4) : KRL l tp n (f + 1) m_R_readBoth [] 9 4 := by
  intro H d s a mi ml z c0 c Q hm hd hH hP h11 hc hz hq
  obtain ⟨h, rfl⟩ : ∃ h, H = h + 13 := ⟨H - 13, by omega⟩
  refine t_R_readBoth_5 mi ml z _ (c_R_eats hP (c := 17) (by decide) rk_both (fun q m1 F1 P1 => ⟨fun e => absurd e (by decide), fun _ => ?_⟩) (fun q => ⟨fun _ => ?_, fun e => absurd rfl e⟩))
  · have e : pz tp n (f + 1) 9 d s a = pz tp n f 9 d (pz tp n f 5 d (zAdv tp n s) a).1 (fun W => opV 3007 (a W) ((pz tp n f 5 d (zAdv tp n s) a).2 W)) := if_pos q
    rw [e] at hq
    exact r_body hA hL (by decide) (by decide) (by decide) (by decide) (by decide) (by decide) hm hd hH hP h11 hc hz q.1 (by rw [q.2]; decide) F1 P1 hq
  · have e : pz tp n (f + 1) 9 d s a = (s, a) := if_neg q
    rw [e] at hq
    exact hq mi (r_stop hP h11 hc hz)
theorem rk32 : ∀ j, j < 94 → (rk j = 32 ↔ j = 43) := by decide +kernel
theorem rk33 : ∀ j, j < 94 → (rk j = 33 ↔ j = 45) := by decide +kernel
theorem r_sumL {l : Launch} {tp : Nat → Nat} {n f : Nat} (hA : KR l tp n f m_R_readTerm 1 1) (hL : KRL l tp n f m_R_readSum [.retAddr 0] 6 2) : KRL l tp n (f + 1) m_R_readSum [.retAddr 0] 6 2 := by
  intro H d s a mi ml z c0 c Q hm hd hH hP h11 hc hz hq
  obtain ⟨h, rfl⟩ : ∃ h, H = h + 13 := ⟨H - 13, by omega⟩
  have k32 : (mi 119 9 = 32) ↔ zK s = 43 := zK_r hP (c := 32) (by decide) rk32
  refine t_R_readSum_5 mi ml z _ (c_R_is hP (c := 32) (by decide) rk32 (fun q => ⟨fun _ => ⟨fun e => absurd (k32.mpr q.2) e, fun _ => c_R_adv hP q.1 (fun m1 F1 P1 => ?_)⟩, fun e => absurd e (by decide)⟩) (fun q => ⟨fun e => absurd rfl e, fun _ => c_R_is hP (c := 33) (by decide) rk33 (fun q2 => ⟨fun e => absurd e (by decide), fun _ => ⟨fun _ => c_R_adv hP q2.1 (fun m1 F1 P1 => ?_), fun e => absurd ⟨q2.1, k32.mp e⟩ q⟩⟩) (fun q2 => ⟨fun _ => ?_, fun e => absurd rfl e⟩)⟩))
  · have e : pz tp n (f + 1) 6 d s a = pz tp n f 6 d (pz tp n f 1 d (zAdv tp n s) a).1 (fun W => opV 3000 (a W) ((pz tp n f 1 d (zAdv tp n s) a).2 W)) := if_pos q
    rw [e] at hq
    exact r_body hA hL (by decide) (by decide) (by decide) (by decide) (by decide) (by decide) hm hd hH hP h11 hc hz q.1 (by rw [q.2]; decide) F1 P1 hq
  · have e : pz tp n (f + 1) 6 d s a = pz tp n f 6 d (pz tp n f 1 d (zAdv tp n s) a).1 (fun W => opV 3001 (a W) ((pz tp n f 1 d (zAdv tp n s) a).2 W)) := (if_neg q).trans (if_pos q2)
    rw [e] at hq
    exact r_body hA hL (by decide) (by decide) (by decide) (by decide) (by decide) (by decide) hm hd hH hP h11 hc hz q2.1 (by rw [q2.2]; decide) F1 P1 hq
  · have e : pz tp n (f + 1) 6 d s a = (s, a) := (if_neg q).trans (if_neg q2)
    rw [e] at hq
    exact hq mi (r_stop hP h11 hc hz)
theorem r_cmp {l : Launch} {tp : Nat → Nat} {n f : Nat} (hS : KR l tp n f m_R_readSum 0 2) : KRX l tp n (f + 1) := by
  intro H d s a mi ml z c0 c Q hm hd hH hP h11 hc hz hq m1 F1 P1
  have hm : 16 * (n - zQ s) + 6 ≤ f + 1 := hm
  have hn9 := hP.1.2.1
  have ok := hP.2.1
  obtain ⟨h, rfl⟩ : ∃ h, H = h + 13 := ⟨H - 13, by omega⟩
  have e : pz tp n (f + 1) 11 d s a = ((pz tp n f 0 d (cmpS tp n s) a).1, fun W => opV (cmpO s) (a W) ((pz tp n f 0 d (cmpS tp n s) a).2 W)) := rfl
  rw [e] at hq
  have cq : zQ s ≤ zQ (cmpS tp n s) ∧ (zF (cmpS tp n s) = 0 → zF s = 0 ∧ zQ s < zQ (cmpS tp n s)) := by
    unfold cmpS
    by_cases q : zSees 61 s ∨ zSees 60 s ∨ zSees 62 s
    · rw [if_pos q]
      refine ⟨zAdv_Q ok, fun q0 => ⟨zAdv_0.mp q0, zAdv_lt ok (zAdv_0.mp q0) ?_⟩⟩
      rcases q with q | q | q <;> rw [q.2] <;> decide
    · rw [if_neg q]
      exact ⟨by rw [zRf_Q]; exact Nat.le_refl _, fun q0 => absurd q0 (zRf_n (by decide))⟩
  have oo : 3000 ≤ cmpO s ∧ ¬ cmpO s = 3006 ∧ ¬ cmpO s = 3009 := by
    unfold cmpO
    by_cases q1 : zSees 61 s
    · rw [if_pos q1]; decide
    · rw [if_neg q1]
      by_cases q2 : zSees 60 s
      · rw [if_pos q2]; decide
      · rw [if_neg q2]; decide
  refine hS (h + 13) d _ a m1 ml z c _ (show 16 * (n - zQ (cmpS tp n s)) + 5 ≤ f by omega) hd hH P1 (by rw [F1.f]; exact h11) hc (fun q => by have := (hz (cq.2 q).1).1; omega) (fun m2 C2 => ?_)
  obtain ⟨p1, p2, p3, p4, c1, p5, p6, p7⟩ := C2
  have b2 : zQ (pz tp n f 0 d (cmpS tp n s) a).1 ≤ n := Nat.le_trans p1.2.1.2.1 p1.2.1.1
  refine c_R_codes p1 p5 p6 (fun q => by have := p7 q; have := cq.2 this.1; have := hz this.1; omega) (fun m3 c2 F3 P3 s3 k3 k4 k5 => ?_)
  refine hq m3 ⟨P3, (F1.p.trans p2).trans F3, fun k hk => by rw [s3 k hk, p3 k hk, F1.f], by dsimp only; omega, c2, k3, k4, fun q => ?_⟩
  obtain ⟨i1, i2, i3, i4, i5⟩ := p7 q
  obtain ⟨r1, r2⟩ := cq.2 i1
  obtain ⟨z1, z2, z3⟩ := hz r1
  obtain ⟨j1, j2, j3⟩ := k5 q
  rw [j1]
  refine ⟨r1, by omega, by dsimp only; omega, fun j hj => by rw [j3 j (by omega), i4 j hj, F1.f], ?_⟩
  exact RS_op2 (z3.fr (fun j _ hj => by rw [j3 j (by omega), i4 j hj, F1.f])) (i5.fr (fun j _ hj => j3 j (by omega))) (fun W _ t => by rw [j2]; exact rst_bin oo.1 oo.2.1 oo.2.2)
theorem rk39 : ∀ j, j < 94 → (rk j = 39 ↔ j = 61) := by decide +kernel
theorem rk40 : ∀ j, j < 94 → (rk j = 40 ↔ j = 60) := by decide +kernel
theorem rk41 : ∀ j, j < 94 → (rk j = 41 ↔ j = 62) := by decide +kernel
theorem c_cmpR {l : Launch} {h : Nat} {mi : TMi} {ml : TMl} {z n : Nat} {tp : Nat → Nat} {s : PS} {K : TMi → TMl → Nat → Prop} (hP : RP mi tp n s) (hq : ∀ m1, FT mi m1 → RP m1 tp n (cmpS tp n s) → K m1 ml z) :
    CI l (h + 12) m_R_is [.ref 119, .int 39] mi ml z (fun x10 mi10 ml10 z10 => ((¬ x10 = 0 → CV l (h + 12) m_R_next [.ref 119] mi10 ml10 z10 (fun a b c => K a b c)) ∧ (x10 = 0 → CI l (h + 12) m_R_is [.ref 119, .int 40] mi10 ml10 z10 (fun x15 mi15 ml15 z15 => ((¬ x15 = 0 → CV l (h + 12) m_R_next [.ref 119] mi15 ml15 z15 (fun a b c => K a b c)) ∧ (x15 = 0 → CI l (h + 12) m_R_is [.ref 119, .int 41] mi15 ml15 z15 (fun x20 mi20 ml20 z20 => ((x20 = 0 → CV l (h + 12) m_R_fails [.ref 119, .int 2] mi20 ml20 z20 (fun a b c => K a b c)) ∧ (¬ x20 = 0 → CV l (h + 12) m_R_next [.ref 119] mi20 ml20 z20 (fun a b c => K a b c)))))))))) := by
  have adv : zSees 61 s ∨ zSees 60 s ∨ zSees 62 s → CV l (h + 12) m_R_next [.ref 119] mi ml z (fun a b c => K a b c) := fun q => by
    have e1 : cmpS tp n s = zAdv tp n s := by unfold cmpS; rw [if_pos q]
    rw [e1] at hq
    refine c_R_adv hP ?_ hq
    rcases q with q | q | q <;> exact q.1
  refine c_R_is hP (c := 39) (by decide) rk39 (fun q => ⟨fun _ => adv (Or.inl q), fun e => absurd e (by decide)⟩) (fun q => ⟨fun e => absurd rfl e, fun _ => c_R_is hP (c := 40) (by decide) rk40 (fun q2 => ⟨fun _ => adv (Or.inr (Or.inl q2)), fun e => absurd e (by decide)⟩) (fun q2 => ⟨fun e => absurd rfl e, fun _ => c_R_is hP (c := 41) (by decide) rk41 (fun q3 => ⟨fun e => absurd e (by decide), fun _ => adv (Or.inr (Or.inr q3))⟩) (fun q3 => ⟨fun _ => ?_, fun e => absurd rfl e⟩)⟩)⟩)
  have e1 : cmpS tp n s = zRf 2 s := by
    unfold cmpS
    rw [if_neg (fun k => by
      rcases k with k | k | k
      · exact q k
      · exact q2 k
      · exact q3 k)]
  rw [e1] at hq
  exact c_R_fails hP (w := 2) (by decide) (by decide) hq
theorem rk35 : ∀ j, j < 94 → (rk j = 35 ↔ j = 40) := by decide +kernel
theorem rk36 : ∀ j, j < 94 → (rk j = 36 ↔ j = 41) := by decide +kernel
theorem rk37 : ∀ j, j < 94 → (rk j = 37 ↔ j = 91) := by decide +kernel
theorem rk38 : ∀ j, j < 94 → (rk j = 38 ↔ j = 93) := by decide +kernel
theorem rk12 : ∀ j, j < 94 → (rk j = 12 ↔ j = 13) := by decide +kernel
theorem rk13 : ∀ j, j < 94 → (rk j = 13 ↔ j = 14) := by decide +kernel
theorem rk14 : ∀ j, j < 94 → (rk j = 14 ↔ j = 15) := by decide +kernel
theorem rk15 : ∀ j, j < 94 → (rk j = 15 ↔ j = 16) := by decide +kernel
theorem rk19 : ∀ j, j < 94 → (rk j = 19 ↔ j = 17) := by decide +kernel
theorem r_unit {l : Launch} {tp : Nat → Nat} {n f : Nat} (hU : KR l tp n f m_R_readUnit 5 3) (hT : KR l tp n f m_R_readTruth 3 5) (hS : KR l tp n f m_R_readSum 0 2) (hX : KRX l tp n f) : KR l tp n (f + 1) m_R_readUnit 5 3 := by
  intro H d s a mi ml z c Q hm hd hH hP h11 hc hz hq
  have hm : 16 * (n - zQ s) + 7 ≤ f + 1 := hm
  obtain ⟨h, rfl⟩ : ∃ h, H = h + 13 := ⟨H - 13, by omega⟩
  have hn9 := hP.1.2.1
  have ok := hP.2.1
  have okq : zQ (zAdv tp n s) ≤ n := by have o := zAdv_ok (tp := tp) hP.1.b ok; exact Nat.le_trans o.2.1 o.1
  refine t_R_readUnit mi ml z _ (c_R_is hP (c := 19) (by decide) rk19 (fun q => ⟨fun e => absurd e (by decide), fun _ => ?_⟩) (fun q => ⟨fun _ => c_R_is hP (c := 37) (by decide) rk37 (fun q2 => ⟨fun e => absurd e (by decide), fun _ => ?_⟩) (fun q2 => ⟨fun _ => ?_, fun e => absurd rfl e⟩), fun e => absurd rfl e⟩))
  · have lt := zAdv_lt (tp := tp) ok q.1 (by rw [q.2]; decide)
    have hzq := hz q.1
    refine c_R_goesIn hP q.1 hd (fun d6 m1 F1 P1 => ⟨fun _ => ?_, fun e => absurd e (by decide)⟩) (fun d6 m1 F1 P1 => ⟨fun e => absurd rfl e, fun _ => ?_⟩)
    · have e : pz tp n (f + 1) 5 d s a = ((pz tp n f 5 (d + 1) (zAdv tp n s) a).1, fun W => 1 - (pz tp n f 5 (d + 1) (zAdv tp n s) a).2 W) := (if_pos q).trans (if_pos d6)
      rw [e] at hq
      rw [nI_1]
      refine hU (h + 12) (d + 1) _ a m1 ml z c _ (show 16 * (n - zQ (zAdv tp n s)) + 7 ≤ f by omega) (by omega) (by omega) P1 (by rw [F1.f]; exact h11) hc (fun _ => by omega) (fun m2 C2 => ?_)
      obtain ⟨p1, p2, p3, p4, c1, p5, p6, p7⟩ := C2
      have b2 : zQ (pz tp n f 5 (d + 1) (zAdv tp n s) a).1 ≤ n := Nat.le_trans p1.2.1.2.1 p1.2.1.1
      refine c_R_codes p1 p5 p6 (fun k => by have := p7 k; omega) (fun m3 c2 F3 P3 s3 k3 k4 k5 => hq m3 ?_)
      refine ⟨P3, (F1.p.trans p2).trans F3, fun k hk => by rw [s3 k hk, p3 k hk, F1.f], by dsimp only; omega, c2, k3, k4, fun q0 => ?_⟩
      obtain ⟨i1, i2, i3, i4, i5⟩ := p7 q0
      obtain ⟨j1, j2, j3⟩ := k5 q0
      rw [j1]
      exact ⟨q.1, by omega, by dsimp only; omega, fun j hj => by rw [j3 j (by omega), i4 j hj, F1.f], RS_op1 (i5.fr (fun j _ hj => j3 j (by omega))) (fun W _ t => by rw [j2]; exact rst_not)⟩
    · have e : pz tp n (f + 1) 5 d s a = (zRf 4 s, a) := (if_pos q).trans (if_neg d6)
      rw [e] at hq
      exact hq m1 (r_rf F1 P1 h11 hc (by decide))
  · have lt := zAdv_lt (tp := tp) ok q2.1 (by rw [q2.2]; decide)
    have hzq := hz q2.1
    refine c_R_goesIn hP q2.1 hd (fun d6 m1 F1 P1 => ⟨fun _ => ?_, fun e => absurd e (by decide)⟩) (fun d6 m1 F1 P1 => ⟨fun e => absurd rfl e, fun _ => ?_⟩)
    · have e : pz tp n (f + 1) 5 d s a = (zXp tp n 93 (pz tp n f 3 (d + 1) (zAdv tp n s) a).1, (pz tp n f 3 (d + 1) (zAdv tp n s) a).2) := (if_neg q).trans ((if_pos q2).trans (if_pos d6))
      rw [e] at hq
      rw [nI_1]
      refine hT (h + 12) (d + 1) _ a m1 ml z c _ (show 16 * (n - zQ (zAdv tp n s)) + 11 ≤ f by omega) (by omega) (by omega) P1 (by rw [F1.f]; exact h11) hc (fun _ => by omega) (fun m2 C2 => c_eatsF (K := Q) C2.1 (c := 38) (by decide) rk38 (fun m3 F3 P3 => hq m3 ?_))
      exact C2.tok F1 F3 P3 zAdv_0.mp (zAdv_Q ok) (fun k => (zXp_0 k).1) (zXp_Q C2.1.2.1).1
    · have e : pz tp n (f + 1) 5 d s a = (zRf 4 s, a) := (if_neg q).trans ((if_pos q2).trans (if_neg d6))
      rw [e] at hq
      exact hq m1 (r_rf F1 P1 h11 hc (by decide))
  · have e : pz tp n (f + 1) 5 d s a = pz tp n f 11 d (pz tp n f 0 d s a).1 (pz tp n f 0 d s a).2 := (if_neg q).trans (if_neg q2)
    rw [e] at hq
    refine hS (h + 12) d s a mi ml z c _ (show 16 * (n - zQ s) + 5 ≤ f by omega) hd (by omega) hP h11 hc hz (fun m1 C1 => ?_)
    obtain ⟨p1, p2, p3, p4, c1, p5, p6, p7⟩ := C1
    have fin := hX (h + 12) d _ _ m1 ml z c c1 Q (show 16 * (n - zQ (pz tp n f 0 d s a).1) + 6 ≤ f by omega) hd (by omega) p1 p5 p6 (fun k => by
      obtain ⟨i1, i2, i3, i4, i5⟩ := p7 k
      exact ⟨by have := hz i1; omega, i2, i5⟩) (fun m2 C2 => hq m2 (RQ_seq p2 p3 p4 (fun k => by
      obtain ⟨i1, i2, i3, i4, i5⟩ := p7 k
      exact ⟨i1, i2, i3, i4⟩) C2))
    have o : ∀ v, cmpO (pz tp n f 0 d s a).1 = v → ∀ m2, FT m1 m2 → RP m2 tp n (cmpS tp n (pz tp n f 0 d s a).1) → CV l (h + 12) m_R_readSum [.ref 119, .int (nI d)] m2 ml z (fun mi7 ml7 z7 => CV l (h + 12) m_R_codes [.ref 119, .int v] mi7 ml7 z7 (fun mi8 ml8 z8 => Q mi8 ml8 z8)) := fun v hv => by rw [← hv]; exact fin
    generalize (pz tp n f 0 d s a).1 = t at p1 o
    refine c_R_is p1 (c := 39) (by decide) rk39 (fun w => ⟨fun e => absurd e (by decide), fun _ => c_cmpR (K := fun a b c => CV l (h + 12) m_R_readSum [.ref 119, .int (nI d)] a b c (fun mi7 ml7 z7 => CV l (h + 12) m_R_codes [.ref 119, .int 3003] mi7 ml7 z7 (fun mi8 ml8 z8 => Q mi8 ml8 z8))) p1 (o 3003 (by unfold cmpO; rw [if_pos w]))⟩) (fun w => ⟨fun _ => c_R_is p1 (c := 40) (by decide) rk40 (fun w2 => ⟨fun e => absurd e (by decide), fun _ => c_cmpR (K := fun a b c => CV l (h + 12) m_R_readSum [.ref 119, .int (nI d)] a b c (fun mi7 ml7 z7 => CV l (h + 12) m_R_codes [.ref 119, .int 3004] mi7 ml7 z7 (fun mi8 ml8 z8 => Q mi8 ml8 z8))) p1 (o 3004 (by unfold cmpO; rw [if_neg w, if_pos w2]))⟩) (fun w2 => ⟨fun _ => c_cmpR (K := fun a b c => CV l (h + 12) m_R_readSum [.ref 119, .int (nI d)] a b c (fun mi7 ml7 z7 => CV l (h + 12) m_R_codes [.ref 119, .int 3005] mi7 ml7 z7 (fun mi8 ml8 z8 => Q mi8 ml8 z8))) p1 (o 3005 (by unfold cmpO; rw [if_neg w, if_neg w2])), fun e => absurd rfl e⟩), fun e => absurd rfl e⟩)
theorem r_if {l : Launch} {tp : Nat → Nat} {n f : Nat} (hT : KR l tp n f m_R_readTruth 3 5) (hS : KR l tp n f m_R_readSum 0 2) : KRI l tp n (f + 1) := by
  intro H d s a mi ml z c Q hm hd hH hP q h11 hc hz hq
  have hm : 16 * (n - zQ (zAdv tp n s)) + 12 ≤ f + 1 := hm
  obtain ⟨h, rfl⟩ : ∃ h, H = h + 12 := ⟨H - 12, by omega⟩
  have hn9 := hP.1.2.1
  have ok := hP.2.1
  have lt := zAdv_lt (tp := tp) ok q.1 (by rw [q.2]; decide)
  refine t_R_readIf mi ml z _ (c_R_goesIn hP q.1 hd (fun d6 m0 F0 P0 => ⟨fun _ => ?_, fun e => absurd e (by decide)⟩) (fun d6 m1 F1 P1 => ⟨fun e => absurd rfl e, fun _ => ?_⟩))
  · rw [if_pos d6] at hq
    rw [nI_1]
    have e : pz tp n (f + 1) 10 (d + 1) (zAdv tp n s) a = (zXp tp n 16 (pz tp n f 0 (d + 1) (zXp tp n 15 (pz tp n f 0 (d + 1) (zXp tp n 14 (pz tp n f 3 (d + 1) (zAdv tp n s) a).1) a).1) a).1, fun W => if (pz tp n f 3 (d + 1) (zAdv tp n s) a).2 W = 1 then (pz tp n f 0 (d + 1) (zXp tp n 14 (pz tp n f 3 (d + 1) (zAdv tp n s) a).1) a).2 W else (pz tp n f 0 (d + 1) (zXp tp n 15 (pz tp n f 0 (d + 1) (zXp tp n 14 (pz tp n f 3 (d + 1) (zAdv tp n s) a).1) a).1) a).2 W) := rfl
    rw [e] at hq
    refine hT (h + 11) (d + 1) _ a m0 ml z c _ (show 16 * (n - zQ (zAdv tp n s)) + 11 ≤ f by omega) (by omega) (by omega) P0 (by rw [F0.f]; exact h11) hc (fun _ => by omega) (fun m1 C1 => ?_)
    generalize pz tp n f 3 (d + 1) (zAdv tp n s) a = t at C1 hq
    obtain ⟨p1, p2, p3, p4, c1, p5, p6, p7⟩ := C1
    refine c_eatsF (h := h + 4) p1 (c := 13) (by decide) rk13 (fun m2 F2 P2 => ?_)
    obtain ⟨x1, x2⟩ := zXp_Q (tp := tp) (k := 14) p1.2.1
    have x3 : zF (zXp tp n 14 t.1) = 0 → zF t.1 = 0 := fun k => (zXp_0 k).1
    generalize zXp tp n 14 t.1 = sa at P2 x1 x2 x3 hq
    have na : zQ sa ≤ n := Nat.le_trans P2.2.1.2.1 P2.2.1.1
    refine hS (h + 11) (d + 1) sa a m2 ml z c1 _ (show 16 * (n - zQ sa) + 5 ≤ f by omega) (by omega) (by omega) P2 (by rw [F2.f]; exact p5) p6 (fun k => by have := p7 (x3 k); omega) (fun m4 C4 => ?_)
    generalize pz tp n f 0 (d + 1) sa a = u at C4 hq
    obtain ⟨u1, u2, u3, u4, c3, u5, u6, u7⟩ := C4
    refine c_eatsF (h := h + 4) u1 (c := 14) (by decide) rk14 (fun m5 F5 P5 => ?_)
    obtain ⟨y1, y2⟩ := zXp_Q (tp := tp) (k := 15) u1.2.1
    have y3 : zF (zXp tp n 15 u.1) = 0 → zF u.1 = 0 := fun k => (zXp_0 k).1
    generalize zXp tp n 15 u.1 = sb at P5 y1 y2 y3 hq
    have nb : zQ sb ≤ n := Nat.le_trans P5.2.1.2.1 P5.2.1.1
    refine hS (h + 11) (d + 1) sb a m5 ml z c3 _ (show 16 * (n - zQ sb) + 5 ≤ f by omega) (by omega) (by omega) P5 (by rw [F5.f]; exact u5) u6 (fun k => by have := u7 (y3 k); have := p7 (x3 this.1); omega) (fun m8 C8 => ?_)
    generalize pz tp n f 0 (d + 1) sb a = v at C8 hq
    obtain ⟨o1, o2, o3, o4, c5, o5, o6, o7⟩ := C8
    refine c_eatsF (h := h + 4) o1 (c := 15) (by decide) rk15 (fun m9 F9 P9 => ?_)
    obtain ⟨w1', w2'⟩ := zXp_Q (tp := tp) (k := 16) o1.2.1
    have w3' : zF (zXp tp n 16 v.1) = 0 → zF v.1 = 0 := fun k => (zXp_0 k).1
    generalize zXp tp n 16 v.1 = sc at P9 w1' w2' w3' hq
    have nc : zQ sc ≤ n := Nat.le_trans P9.2.1.2.1 P9.2.1.1
    have G : zF sc = 0 → c ≤ c1 ∧ c1 ≤ c3 ∧ c3 ≤ c5 ∧ c5 + zQ s + 1 ≤ c + zQ sc ∧ (∀ j, j < c → m9 123 (471 + j) = mi 123 (471 + j)) ∧ RS (m9 123) c c1 t.2 ∧ RS (m9 123) c1 c3 u.2 ∧ RS (m9 123) c3 c5 v.2 := fun k => by
      obtain ⟨i1, i2, i3, i4, i5⟩ := o7 (w3' k)
      obtain ⟨j1, j2, j3, j4, j5⟩ := u7 (y3 i1)
      obtain ⟨k1, k2, k3, k4, k5⟩ := p7 (x3 j1)
      refine ⟨k2, j2, i2, by omega, fun j hj => ?_, ?_, ?_, ?_⟩
      · rw [F9.f, i4 j (by omega), F5.f, j4 j (by omega), F2.f, k4 j hj, F0.f]
      · exact k5.fr (fun j _ hj => by rw [F9.f, i4 j (by omega), F5.f, j4 j (by omega), F2.f])
      · exact j5.fr (fun j _ hj => by rw [F9.f, i4 j (by omega), F5.f])
      · exact i5.fr (fun j _ hj => by rw [F9.f])
    refine c_R_codes P9 (c := c5) (by rw [F9.f]; exact o5) o6 (fun k => by have := G k; omega) (fun m10 c6 F10 P10 s10 k3 k4 k5 => hq m10 ?_)
    refine ⟨P10, (((((((F0.p.trans p2).trans F2.p).trans u2).trans F5.p).trans o2).trans F9.p).trans F10), fun k hk => by rw [s10 k hk, F9.f, o3 k hk, F5.f, u3 k hk, F2.f, p3 k hk, F0.f], by dsimp only; omega, c6, k3, k4, fun k => ?_⟩
    obtain ⟨g1, g2, g3, g4, g5, g6, g7, g8⟩ := G k
    obtain ⟨j1, j2, j3⟩ := k5 k
    rw [j1]
    refine ⟨q.1, by omega, by dsimp only; omega, fun j hj => by rw [j3 j (by omega), g5 j hj], ?_⟩
    exact RS_op3 (g6.fr (fun j _ hj => j3 j (by omega))) (g7.fr (fun j _ hj => j3 j (by omega))) (g8.fr (fun j _ hj => j3 j (by omega))) (fun W _ t => by rw [j2]; exact rst_if)
  · rw [if_neg d6] at hq
    exact hq m1 (r_rf F1 P1 h11 hc (by decide))
