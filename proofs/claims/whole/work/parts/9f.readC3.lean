/-! ===== the class reads a law: atoms, units, if ===== -/
theorem k_rf {tp : Nat → Nat} {n dp w : Nat} {tr : Bool} {s : PS} {a : FF} {mi m1 : TMi} {c0 c : Nat} (F1 : Fr [12] mi m1) (P1 : CP m1 tp n (zRf w s)) (h11 : mi 3 11 = nI c) (hc : c ≤ 900) (hw : 0 < w) : CQ tp n mi m1 c0 c s (zRf w s, a) dp tr := by
  obtain ⟨e1, e2, e3, e4⟩ := Fr12 F1
  exact CQ_bad P1 e4 (fun k _ => by rw [e1]) (by show zQ s ≤ zQ (zRf w s); rw [zRf_Q]; exact Nat.le_refl _) (by rw [e1]; exact h11) hc (zRf_n hw)
theorem k_atom {l : Launch} {tp : Nat → Nat} {n f : Nat} (hS : KC l tp n f m_Re_readSum 0 2 2 false) (hI : KC l tp n f m_Re_readIf 10 6 5 false) : KC l tp n (f + 1) m_Re_readAtom 2 0 0 false := by
  intro H d s a mi ml z c Q hm hd hH hP h11 hc hz hq
  have hm : 16 * (n - zQ s) + 1 ≤ f + 1 := hm
  obtain ⟨h, rfl⟩ : ∃ h, H = h + 13 := ⟨H - 13, by omega⟩
  have hn9 := hP.1.2.1
  have ok := hP.2.1
  have okq : zQ (zAdv tp n s) ≤ n := by have o := zAdv_ok (tp := tp) hP.1.b ok; exact Nat.le_trans o.2.1 o.1
  have other : ¬ zSees 21 s → ¬ (zF s = 0 ∧ 1 ≤ zK s ∧ zK s ≤ 6) → CI l (h + 12) m_To_sees [.ref 12, .int 40] mi ml z (fun x4 mi4 ml4 z4 => ((x4 = 0 → CI l (h + 12) m_To_sees [.ref 12, .int 13] mi4 ml4 z4 (fun x6 mi6 ml6 z6 => ((x6 = 0 → CV l (h + 12) m_To_refuse [.ref 12, .int 2] mi6 ml6 z6 (fun mi8 ml8 z8 => Q mi8 ml8 z8)) ∧ (¬ x6 = 0 → CI l (h + 12) m_Re_goesIn [.ref 13, .int (nI d)] mi6 ml6 z6 (fun x9 mi9 ml9 z9 => ((x9 = 0 → Q mi9 ml9 z9) ∧ (¬ x9 = 0 → CV l (h + 12) m_Re_readIf [.ref 13, .int (nI d + 1)] mi9 ml9 z9 (fun mi11 ml11 z11 => Q mi11 ml11 z11)))))))) ∧ (¬ x4 = 0 → CI l (h + 12) m_Re_goesIn [.ref 13, .int (nI d)] mi4 ml4 z4 (fun x12 mi12 ml12 z12 => ((x12 = 0 → Q mi12 ml12 z12) ∧ (¬ x12 = 0 → CV l (h + 12) m_Re_readSum [.ref 13, .int (nI d + 1)] mi12 ml12 z12 (fun mi14 ml14 z14 => CV l (h + 12) m_To_expect [.ref 12, .int 41] mi14 ml14 z14 (fun mi15 ml15 z15 => Q mi15 ml15 z15)))))))) := fun n21 nv => by
    refine c_To_sees hP (k := 40) (by decide) (fun q => ⟨fun e => absurd e (by decide), fun _ => ?_⟩) (fun q => ⟨fun _ => c_To_sees hP (k := 13) (by decide) (fun q2 => ⟨fun e => absurd e (by decide), fun _ => ?_⟩) (fun q2 => ⟨fun _ => ?_, fun e => absurd rfl e⟩), fun e => absurd rfl e⟩)
    · have lt := zAdv_lt (tp := tp) ok q.1 (by rw [q.2]; decide)
      refine c_Re_goesIn hP hd (fun d6 m1 F1 P1 => ⟨fun e => absurd e (by decide), fun _ => ?_⟩) (fun d6 m1 F1 P1 => ⟨fun _ => ?_, fun e => absurd rfl e⟩)
      · have e : pz tp n (f + 1) 2 d s a = (zXp tp n 41 (pz tp n f 0 (d + 1) (zAdv tp n s) a).1, (pz tp n f 0 (d + 1) (zAdv tp n s) a).2) := (if_neg n21).trans ((if_neg nv).trans ((if_pos q).trans (if_pos d6)))
        rw [e] at hq
        rw [nI_1]
        refine hS (h + 12) (d + 1) _ a m1 ml z c _ (show 16 * (n - zQ (zAdv tp n s)) + 5 ≤ f by omega) (by omega) (by omega) P1 (by rw [(Fr12 F1).1]; exact h11) hc (fun _ => by have := hz q.1; omega) (fun m2 C2 => c_To_expect C2.1 (k := 41) (by decide) (fun m3 F3 P3 => hq m3 ?_))
        exact C2.tok F1 F3 P3 zAdv_0.mp (zAdv_Q ok) (fun k => (zXp_0 k).1) (zXp_Q C2.1.2.1).1 (by omega)
      · have e : pz tp n (f + 1) 2 d s a = (zRf 4 s, a) := (if_neg n21).trans ((if_neg nv).trans ((if_pos q).trans (if_neg d6)))
        rw [e] at hq
        exact hq m1 (k_rf F1 P1 h11 hc (by decide))
    · have lt := zAdv_lt (tp := tp) ok q2.1 (by rw [q2.2]; decide)
      refine c_Re_goesIn hP hd (fun d6 m1 F1 P1 => ⟨fun e => absurd e (by decide), fun _ => ?_⟩) (fun d6 m1 F1 P1 => ⟨fun _ => ?_, fun e => absurd rfl e⟩)
      · have e : pz tp n (f + 1) 2 d s a = pz tp n f 10 (d + 1) (zAdv tp n s) a := (if_neg n21).trans ((if_neg nv).trans ((if_neg q).trans ((if_pos q2).trans (if_pos d6))))
        rw [e] at hq
        rw [nI_1]
        refine hI (h + 12) (d + 1) _ a m1 ml z c _ (show 16 * (n - zQ (zAdv tp n s)) + 12 ≤ f by omega) (by omega) (by omega) P1 (by rw [(Fr12 F1).1]; exact h11) hc (fun _ => by have := hz q2.1; omega) (fun m2 C2 => hq m2 ?_)
        exact C2.tok F1 (Fr.refl _ _) C2.1 zAdv_0.mp (zAdv_Q ok) (fun k => k) (Nat.le_refl _) (by omega)
      · have e : pz tp n (f + 1) 2 d s a = (zRf 4 s, a) := (if_neg n21).trans ((if_neg nv).trans ((if_neg q).trans ((if_pos q2).trans (if_neg d6))))
        rw [e] at hq
        exact hq m1 (k_rf F1 P1 h11 hc (by decide))
    · have e : pz tp n (f + 1) 2 d s a = (zRf 2 s, a) := (if_neg n21).trans ((if_neg nv).trans ((if_neg q).trans (if_neg q2)))
      rw [e] at hq
      exact c_To_refuse hP (w := 2) (by decide) (by decide) (fun m1 F1 P1 => hq m1 (k_rf F1 P1 h11 hc (by decide)))
  refine t_Re_readAtom mi ml z _ (c_To_sees hP (k := 21) (by decide) (fun q => ⟨fun e => absurd e (by decide), fun _ => ?_⟩) (fun q => ⟨fun _ => ?_, fun e => absurd rfl e⟩))
  · have e : pz tp n (f + 1) 2 d s a = (zAdv tp n s, fun _ => nI (zV s)) := if_pos q
    rw [e] at hq
    have lt := zAdv_lt (tp := tp) ok q.1 (by rw [q.2]; decide)
    have hzq := hz q.1
    rw [hP.2.2.2.2.2.1 q.2, Int32.zero_add]
    refine c_La_addCode h11 hc (fun m1 c1 F1 s1 k1 k2 k3 => ?_)
    obtain ⟨g1, g2, g3⟩ := Fr311 F1
    refine c_To_advance (hP.fr g1 g2) (fun m2 F2 P2 => hq m2 ?_)
    obtain ⟨e1, e2, e3, e4⟩ := Fr12 F2
    refine ⟨P2, g3.step e4, fun k hk => by rw [e1, s1 k hk], zAdv_Q ok, c1, by rw [e1]; exact k1, k2, fun _ => ?_⟩
    obtain ⟨j1, j2, j3⟩ := k3 (by omega)
    rw [j1]
    refine ⟨q.1, by omega, by dsimp only; omega, fun j hj => by rw [e2, j3 j (by omega)], fun e => absurd e (by decide), ?_⟩
    exact (CS_num (by omega) ok.2.2.2.2.2.1 (by rw [e2]; exact j2)).mono (by omega)
  · have hK := ok.2.2.1
    rw [hP.2.2.2.1]
    show (nI (zK s) < nI 1 → _) ∧ (¬ nI (zK s) < nI 1 → ((nI 6 < nI (zK s) → _) ∧ (¬ nI 6 < nI (zK s) → _)))
    rw [nI_ltI (by omega) (by decide), nI_ltI (by decide) (by omega)]
    refine ⟨fun k => other q (fun v => by omega), fun k => ⟨fun k2 => other q (fun v => by omega), fun k2 => ?_⟩⟩
    rw [show (1000 : Int32) + nI (zK s) = nI (1000 + zK s) from addL (a := 1000) (zK s), sub1 (by omega) (by omega)]
    refine c_La_addCode h11 hc (fun m1 c1 F1 s1 k1 k2' k3 => ?_)
    obtain ⟨g1, g2, g3⟩ := Fr311 F1
    refine c_To_advance (hP.fr g1 g2) (fun m2 F2 P2 => hq m2 ?_)
    obtain ⟨e1, e2, e3, e4⟩ := Fr12 F2
    by_cases q0 : zF s = 0
    · have e : pz tp n (f + 1) 2 d s a = (zAdv tp n s, fun W => W (zK s - 1)) := (if_neg q).trans (if_pos ⟨q0, by omega, by omega⟩)
      rw [e]
      have lt := zAdv_lt (tp := tp) ok q0 (by omega)
      have hzq := hz q0
      refine ⟨P2, g3.step e4, fun k hk => by rw [e1, s1 k hk], zAdv_Q ok, c1, by rw [e1]; exact k1, k2', fun _ => ?_⟩
      obtain ⟨j1, j2, j3⟩ := k3 (by omega)
      rw [j1]
      refine ⟨q0, by omega, by dsimp only; omega, fun j hj => by rw [e2, j3 j (by omega)], fun e => absurd e (by decide), ?_⟩
      refine (CS_var (v := zK s - 1) (by omega) (by omega) ?_).mono (by omega)
      rw [e2, j2, show 1000 + zK s - 1 = 1000 + (zK s - 1) by omega]
    · have e : pz tp n (f + 1) 2 d s a = (s, a) := by
        refine ((if_neg q).trans ((if_neg (fun k => q0 k.1)).trans ((if_neg (fun k => q0 k.1)).trans (if_neg (fun k => q0 k.1))))).trans ?_
        rw [zRf_f q0]
      rw [e]
      rw [zAdv_f q0] at P2
      exact CQ_bad P2 (g3.step e4) (fun k hk => by rw [e1, s1 k hk]) (Nat.le_refl _) (by rw [e1]; exact k1) k2' q0
theorem k_unit {l : Launch} {tp : Nat → Nat} {n f : Nat} (hU : KC l tp n f m_Re_readUnit 5 3 3 true) (hT : KC l tp n f m_Re_readTruth 3 5 5 true) (hS : KC l tp n f m_Re_readSum 0 2 2 false) (hX : KX l tp n f) : KC l tp n (f + 1) m_Re_readUnit 5 3 3 true := by
  intro H d s a mi ml z c Q hm hd hH hP h11 hc hz hq
  have hm : 16 * (n - zQ s) + 7 ≤ f + 1 := hm
  obtain ⟨h, rfl⟩ : ∃ h, H = h + 13 := ⟨H - 13, by omega⟩
  have hn9 := hP.1.2.1
  have ok := hP.2.1
  have okq : zQ (zAdv tp n s) ≤ n := by have o := zAdv_ok (tp := tp) hP.1.b ok; exact Nat.le_trans o.2.1 o.1
  refine t_Re_readUnit mi ml z _ (c_To_sees hP (k := 17) (by decide) (fun q => ⟨fun e => absurd e (by decide), fun _ => ?_⟩) (fun q => ⟨fun _ => c_To_sees hP (k := 91) (by decide) (fun q2 => ⟨fun e => absurd e (by decide), fun _ => ?_⟩) (fun q2 => ⟨fun _ => ?_, fun e => absurd rfl e⟩), fun e => absurd rfl e⟩))
  · have lt := zAdv_lt (tp := tp) ok q.1 (by rw [q.2]; decide)
    have hzq := hz q.1
    refine c_Re_goesIn hP hd (fun d6 m1 F1 P1 => ⟨fun e => absurd e (by decide), fun _ => ?_⟩) (fun d6 m1 F1 P1 => ⟨fun _ => ?_, fun e => absurd rfl e⟩)
    · have e : pz tp n (f + 1) 5 d s a = ((pz tp n f 5 (d + 1) (zAdv tp n s) a).1, fun W => 1 - (pz tp n f 5 (d + 1) (zAdv tp n s) a).2 W) := (if_pos q).trans (if_pos d6)
      rw [e] at hq
      rw [nI_1]
      refine hU (h + 12) (d + 1) _ a m1 ml z c _ (show 16 * (n - zQ (zAdv tp n s)) + 7 ≤ f by omega) (by omega) (by omega) P1 (by rw [(Fr12 F1).1]; exact h11) hc (fun _ => by omega) (fun m2 C2 => ?_)
      obtain ⟨p1, p2, p3, p4, c1, p5, p6, p7⟩ := C2
      obtain ⟨e1, e2, e3, e4⟩ := Fr12 F1
      have b2 : zQ (pz tp n f 5 (d + 1) (zAdv tp n s) a).1 ≤ n := Nat.le_trans p1.2.1.2.1 p1.2.1.1
      refine c_La_addCode p5 p6 (fun m3 c2 F3 s3 k3 k4 k5 => hq m3 ?_)
      obtain ⟨g1, g2, g3⟩ := Fr311 F3
      refine ⟨p1.fr g1 g2, (e4.step p2).step g3, fun k hk => by rw [s3 k hk, p3 k hk, e1], by dsimp only; omega, c2, k3, k4, fun q0 => ?_⟩
      obtain ⟨i1, i2, i3, i4, i5, i6⟩ := p7 q0
      obtain ⟨j1, j2, j3⟩ := k5 (by omega)
      rw [j1]
      exact ⟨q.1, by omega, by dsimp only; omega, fun j hj => by rw [j3 j (by omega), i4 j hj, e2], fun _ => tr_6 (i5 rfl), CS_not ((i6.fr (fun j _ hj => j3 j (by omega))).mono (by omega)) (by omega) j2 (i5 rfl)⟩
    · have e : pz tp n (f + 1) 5 d s a = (zRf 4 s, a) := (if_pos q).trans (if_neg d6)
      rw [e] at hq
      exact hq m1 (k_rf F1 P1 h11 hc (by decide))
  · have lt := zAdv_lt (tp := tp) ok q2.1 (by rw [q2.2]; decide)
    have hzq := hz q2.1
    refine c_Re_goesIn hP hd (fun d6 m1 F1 P1 => ⟨fun e => absurd e (by decide), fun _ => ?_⟩) (fun d6 m1 F1 P1 => ⟨fun _ => ?_, fun e => absurd rfl e⟩)
    · have e : pz tp n (f + 1) 5 d s a = (zXp tp n 93 (pz tp n f 3 (d + 1) (zAdv tp n s) a).1, (pz tp n f 3 (d + 1) (zAdv tp n s) a).2) := (if_neg q).trans ((if_pos q2).trans (if_pos d6))
      rw [e] at hq
      rw [nI_1]
      refine hT (h + 12) (d + 1) _ a m1 ml z c _ (show 16 * (n - zQ (zAdv tp n s)) + 11 ≤ f by omega) (by omega) (by omega) P1 (by rw [(Fr12 F1).1]; exact h11) hc (fun _ => by omega) (fun m2 C2 => c_To_expect C2.1 (k := 93) (by decide) (fun m3 F3 P3 => hq m3 ?_))
      exact C2.tok F1 F3 P3 zAdv_0.mp (zAdv_Q ok) (fun k => (zXp_0 k).1) (zXp_Q C2.1.2.1).1 (by omega)
    · have e : pz tp n (f + 1) 5 d s a = (zRf 4 s, a) := (if_neg q).trans ((if_pos q2).trans (if_neg d6))
      rw [e] at hq
      exact hq m1 (k_rf F1 P1 h11 hc (by decide))
  · have e : pz tp n (f + 1) 5 d s a = pz tp n f 11 d (pz tp n f 0 d s a).1 (pz tp n f 0 d s a).2 := (if_neg q).trans (if_neg q2)
    rw [e] at hq
    refine hS (h + 12) d s a mi ml z c _ (show 16 * (n - zQ s) + 5 ≤ f by omega) hd (by omega) hP h11 hc hz (fun m1 C1 => ?_)
    obtain ⟨p1, p2, p3, p4, c1, p5, p6, p7⟩ := C1
    refine hX (h + 12) d _ _ m1 ml z c c1 Q (show 16 * (n - zQ (pz tp n f 0 d s a).1) + 6 ≤ f by omega) hd (by omega) p1 p5 p6 (fun k => ?_) (fun m2 C2 => hq m2 (CQ_seq p2 p3 p4 (fun k => ?_) C2))
    · obtain ⟨i1, i2, i3, i4, i5, i6⟩ := p7 k
      exact ⟨by have := hz i1; omega, i2, i6⟩
    · obtain ⟨i1, i2, i3, i4, i5, i6⟩ := p7 k
      exact ⟨i1, i2, i3, i4⟩
theorem k_if {l : Launch} {tp : Nat → Nat} {n f : Nat} (hT : KC l tp n f m_Re_readTruth 3 5 5 true) (hS : KC l tp n f m_Re_readSum 0 2 2 false) : KC l tp n (f + 1) m_Re_readIf 10 6 5 false := by
  intro H d s a mi ml z c Q hm hd hH hP h11 hc hz hq
  have hm : 16 * (n - zQ s) + 12 ≤ f + 1 := hm
  obtain ⟨h, rfl⟩ : ∃ h, H = h + 13 := ⟨H - 13, by omega⟩
  have hn9 := hP.1.2.1
  have e : pz tp n (f + 1) 10 d s a = (zXp tp n 16 (pz tp n f 0 d (zXp tp n 15 (pz tp n f 0 d (zXp tp n 14 (pz tp n f 3 d s a).1) a).1) a).1, fun W => if (pz tp n f 3 d s a).2 W = 1 then (pz tp n f 0 d (zXp tp n 14 (pz tp n f 3 d s a).1) a).2 W else (pz tp n f 0 d (zXp tp n 15 (pz tp n f 0 d (zXp tp n 14 (pz tp n f 3 d s a).1) a).1) a).2 W) := rfl
  rw [e] at hq
  refine t_Re_readIf mi ml z _ (hT (h + 12) d s a mi ml z c _ (show 16 * (n - zQ s) + 11 ≤ f by omega) hd (by omega) hP h11 hc hz (fun m1 C1 => ?_))
  generalize pz tp n f 3 d s a = t at C1 hq
  obtain ⟨p1, p2, p3, p4, c1, p5, p6, p7⟩ := C1
  refine c_To_expect p1 (k := 14) (by decide) (fun m2 F2 P2 => ?_)
  obtain ⟨e1, e2, e3, e4⟩ := Fr12 F2
  obtain ⟨x1, x2⟩ := zXp_Q (tp := tp) (k := 14) p1.2.1
  have x3 : zF (zXp tp n 14 t.1) = 0 → zF t.1 = 0 := fun k => (zXp_0 k).1
  generalize zXp tp n 14 t.1 = sa at P2 x1 x2 x3 hq
  refine c_La_addCode (c := c1) (by rw [e1]; exact p5) p6 (fun m3 c2 F3 s3 k3 k4 k5 => ?_)
  obtain ⟨g1, g2, g3⟩ := Fr311 F3
  have na : zQ sa ≤ n := Nat.le_trans P2.2.1.2.1 P2.2.1.1
  have G1 : zF sa = 0 → zF s = 0 ∧ c ≤ c1 ∧ c1 < 900 ∧ c2 = c1 + 1 ∧ c2 + zQ s ≤ c + zQ sa ∧ c ≤ zQ s ∧ (∀ j, j < c → m3 11 j = mi 11 j) ∧ trF t.2 ∧ CS (m3 11) c c1 (31 + 5 - 5 * d) t.2 ∧ m3 11 c1 = 3000 := fun k => by
    obtain ⟨i1, i2, i3, i4, i5, i6⟩ := p7 (x3 k)
    have := x2 (by decide) k
    have hzs := hz i1
    have lt9 : c1 < 900 := by omega
    obtain ⟨j1, j2, j3⟩ := k5 lt9
    exact ⟨i1, i2, lt9, j1, by omega, hzs, fun j hj => by rw [j3 j (by omega), e2, i4 j hj], i5 rfl, i6.fr (fun j _ hj => by rw [j3 j (by omega), e2]), j2⟩
  refine hS (h + 12) d sa a m3 ml z c2 _ (show 16 * (n - zQ sa) + 5 ≤ f by omega) hd (by omega) (P2.fr g1 g2) k3 k4 (fun k => by have := G1 k; omega) (fun m4 C4 => ?_)
  generalize pz tp n f 0 d sa a = u at C4 hq
  obtain ⟨u1, u2, u3, u4, c3, u5, u6, u7⟩ := C4
  refine c_To_expect u1 (k := 15) (by decide) (fun m5 F5 P5 => ?_)
  obtain ⟨f1, f2, f3, f4⟩ := Fr12 F5
  obtain ⟨y1, y2⟩ := zXp_Q (tp := tp) (k := 15) u1.2.1
  have y3 : zF (zXp tp n 15 u.1) = 0 → zF u.1 = 0 := fun k => (zXp_0 k).1
  generalize zXp tp n 15 u.1 = sb at P5 y1 y2 y3 hq
  refine c_La_addCode (c := c3) (by rw [f1]; exact u5) u6 (fun m6 c4 F6 s6 l3 l4 l5 => ?_)
  obtain ⟨v1, v2, v3⟩ := Fr311 F6
  have nb : zQ sb ≤ n := Nat.le_trans P5.2.1.2.1 P5.2.1.1
  refine c_Re_aim (p := c2 - 1) l3 l4 (by omega) (fun m7 F7 w1 w2 => ?_)
  have G2 : zF sb = 0 → zF sa = 0 ∧ c2 ≤ c3 ∧ c3 < 900 ∧ c4 = c3 + 1 ∧ c4 + zQ sa ≤ c2 + zQ sb ∧ (∀ j, j < c → m7 11 j = mi 11 j) ∧ CS (m7 11) c c1 (31 + 5 - 5 * d) t.2 ∧ m7 11 c1 = nI (3000 + (c3 + 1)) ∧ CS (m7 11) (c1 + 1) c3 (31 + 2 - 5 * d) u.2 ∧ m7 11 c3 = 2000 := fun k => by
    obtain ⟨i1, i2, i3, i4, i5, i6⟩ := u7 (y3 k)
    have := y2 (by decide) k
    obtain ⟨r1, r2, r3, r4, r5, r6, r7, r8, r9, r10⟩ := G1 i1
    have lt9 : c3 < 900 := by omega
    obtain ⟨j1, j2, j3⟩ := l5 lt9
    have cc : c2 - 1 = c1 := by omega
    rw [cc] at w1 w2
    have keep : ∀ j, j < c1 → m7 11 j = m3 11 j := fun j hj => by rw [w2 j (by omega), j3 j (by omega), f2, i4 j (by omega)]
    refine ⟨i1, i2, lt9, j1, by omega, fun j hj => by rw [keep j (by omega), r7 j hj], r9.fr (fun j _ hj => keep j hj), ?_, ?_, ?_⟩
    · rw [w1 (by omega), j3 c1 (by omega), f2, i4 c1 (by omega), r10, addL, j1]
    · rw [← r4]
      exact i6.fr (fun j h1 h2 => by rw [w2 j (by omega), j3 j (by omega), f2])
    · rw [w2 c3 (by omega), j2]
  have e73 : m7 3 = m6 3 := F7 3 (by decide)
  have e712 : m7 12 = m6 12 := F7 12 (by decide)
  have e72 : m7 2 = m6 2 := F7 2 (by decide)
  refine hS (h + 12) d sb a m7 ml z c4 _ (show 16 * (n - zQ sb) + 5 ≤ f by omega) hd (by omega) ((P5.fr v1 v2).fr e712 e72) (by rw [e73]; exact l3) l4 (fun k => by have := G2 k; have := G1 (G2 k).1; omega) (fun m8 C8 => ?_)
  generalize pz tp n f 0 d sb a = v at C8 hq
  obtain ⟨o1, o2, o3, o4, c5, o5, o6, o7⟩ := C8
  refine c_To_expect o1 (k := 16) (by decide) (fun m9 F9 P9 => ?_)
  obtain ⟨h1', h2', h3', h4'⟩ := Fr12 F9
  obtain ⟨w1', w2'⟩ := zXp_Q (tp := tp) (k := 16) o1.2.1
  have w3' : zF (zXp tp n 16 v.1) = 0 → zF v.1 = 0 := fun k => (zXp_0 k).1
  generalize zXp tp n 16 v.1 = sc at P9 w1' w2' w3' hq
  have nc : zQ sc ≤ n := Nat.le_trans P9.2.1.2.1 P9.2.1.1
  refine c_Re_aim (c := c5) (p := c4 - 1) (by rw [h1']; exact o5) o6 (by omega) (fun m10 F10 t1 t2 => hq m10 ?_)
  have ea3 : m10 3 = m9 3 := F10 3 (by decide)
  have ea12 : m10 12 = m9 12 := F10 12 (by decide)
  have ea2 : m10 2 = m9 2 := F10 2 (by decide)
  have W11 : ∀ {x y : TMi}, Fr [11] x y → Fr [3, 11, 12] x y := fun F => F.weak (by simp)
  refine ⟨P9.fr ea12 ea2, (((((((((p2).step e4).step g3).step u2).step f4).step v3).step (W11 F7)).step o2).step h4').step (W11 F10), fun k hk => by rw [ea3, h1', o3 k hk, e73, s6 k hk, f1, u3 k hk, s3 k hk, e1, p3 k hk], by dsimp only; omega, c5, by rw [ea3, h1']; exact o5, o6, fun k => ?_⟩
  obtain ⟨i1, i2, i3, i4, i5, i6⟩ := o7 (w3' k)
  have := w2' (by decide) k
  obtain ⟨r1, r2, r3, r4, r5, r6, r7, r8, r9, r10⟩ := G2 i1
  obtain ⟨z1, z2, z3, z4, z5, z6, z7, z8, z9, z10⟩ := G1 r1
  have cc : c4 - 1 = c3 := by omega
  rw [cc] at t1 t2
  have keep : ∀ j, j < c4 → j ≠ c3 → m10 11 j = m7 11 j := fun j hj hn => by rw [t2 j hn, h2', i4 j hj]
  refine ⟨z1, by omega, by dsimp only; omega, fun j hj => by rw [keep j (by omega) (by omega), r6 j hj], fun e => absurd e (by decide), ?_⟩
  refine CS_if (p := c1) (q := c3) (dt := 31 + 5 - 5 * d) (du := 31 + 2 - 5 * d) (dv' := 31 + 2 - 5 * d) (r7.fr (fun j _ hj => keep j (by omega) (by omega))) (r9.fr (fun j h1 h2 => keep j (by omega) (by omega))) ?_ (Nat.le_refl _) (by omega) (by omega) o6 z8 ?_ ?_
  · rw [← r4]
    exact i6.fr (fun j h1 h2 => by rw [t2 j (by omega), h2'])
  · rw [keep c1 (by omega) (by omega), r8]
  · rw [t1 (by omega), h2', i4 c3 (by omega), r10, addL]
/-- all readers of laws, at once -/
theorem k_all (l : Launch) (tp : Nat → Nat) (n : Nat) : ∀ f, KC l tp n f m_Re_readSum 0 2 2 false ∧ KC l tp n f m_Re_readTerm 1 1 1 false ∧ KC l tp n f m_Re_readAtom 2 0 0 false ∧ KC l tp n f m_Re_readTruth 3 5 5 true ∧ KC l tp n f m_Re_readBoth 4 4 4 true ∧ KC l tp n f m_Re_readUnit 5 3 3 true ∧ KL l tp n f m_Re_readSum [.retAddr 0] 6 2 2 false ∧ KL l tp n f m_Re_readTerm [] 7 1 1 false ∧ KL l tp n f m_Re_readTruth [] 8 5 5 true ∧ KL l tp n f m_Re_readBoth [] 9 4 4 true ∧ KC l tp n f m_Re_readIf 10 6 5 false ∧ KX l tp n f := by
  have z0 : ∀ {x m : Nat}, 16 * x + wt m ≤ 0 → 1 ≤ wt m → False := fun h1 h2 => by omega
  intro f
  induction f with
  | zero =>
    exact ⟨fun _ _ _ _ _ _ _ _ _ hm => (z0 hm (by decide)).elim, fun _ _ _ _ _ _ _ _ _ hm => (z0 hm (by decide)).elim, fun _ _ _ _ _ _ _ _ _ hm => (z0 hm (by decide)).elim, fun _ _ _ _ _ _ _ _ _ hm => (z0 hm (by decide)).elim, fun _ _ _ _ _ _ _ _ _ hm => (z0 hm (by decide)).elim, fun _ _ _ _ _ _ _ _ _ hm => (z0 hm (by decide)).elim, fun _ _ _ _ _ _ _ _ _ _ _ hm => (z0 hm (by decide)).elim, fun _ _ _ _ _ _ _ _ _ _ _ hm => (z0 hm (by decide)).elim, fun _ _ _ _ _ _ _ _ _ _ _ hm => (z0 hm (by decide)).elim, fun _ _ _ _ _ _ _ _ _ _ _ hm => (z0 hm (by decide)).elim, fun _ _ _ _ _ _ _ _ _ hm => (z0 hm (by decide)).elim, fun _ _ _ _ _ _ _ _ _ _ hm => (z0 hm (by decide)).elim⟩
  | succ f ih =>
    obtain ⟨a0, a1, a2, a3, a4, a5, a6, a7, a8, a9, a10, a11⟩ := ih
    exact ⟨k_head a1 a6 (by decide) (by decide) (by decide) (by decide) (fun h d mi ml z Q H => t_Re_readSum mi ml z _ H) (fun _ _ _ => rfl),
      k_head a2 a7 (by decide) (by decide) (by decide) (by decide) (fun h d mi ml z Q H => t_Re_readTerm mi ml z _ H) (fun _ _ _ => rfl),
      k_atom a0 a10,
      k_head a4 a8 (by decide) (by decide) (by decide) (by decide) (fun h d mi ml z Q H => t_Re_readTruth mi ml z _ H) (fun _ _ _ => rfl),
      k_head a5 a9 (by decide) (by decide) (by decide) (by decide) (fun h d mi ml z Q H => t_Re_readBoth mi ml z _ H) (fun _ _ _ => rfl),
      k_unit a5 a3 a0 a11, k_sumL a1 a6, k_termL a2 a7, k_truthL a4 a8, k_bothL a5 a9, k_if a3 a0, k_cmp a0⟩
