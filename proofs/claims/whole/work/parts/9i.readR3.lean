/-! ===== the reference reads a law: atoms, all at once ===== -/
theorem r_atom {l : Launch} {tp : Nat → Nat} {n f : Nat} (hS : KR l tp n f m_R_readSum 0 2) (hI : KRI l tp n f) : KR l tp n (f + 1) m_R_readAtom 2 0 := by
  intro H d s a mi ml z c Q hm hd hH hP h11 hc hz hq
  have hm : 16 * (n - zQ s) + 1 ≤ f + 1 := hm
  obtain ⟨h, rfl⟩ : ∃ h, H = h + 13 := ⟨H - 13, by omega⟩
  have hn9 := hP.1.2.1
  have ok := hP.2.1
  have okq : zQ (zAdv tp n s) ≤ n := by have o := zAdv_ok (tp := tp) hP.1.b ok; exact Nat.le_trans o.2.1 o.1
  have other : ¬ zSees 21 s → ¬ (zF s = 0 ∧ 1 ≤ zK s ∧ zK s ≤ 6) → CI l (h + 12) m_R_is [.ref 119, .int 35] mi ml z (fun x4 mi4 ml4 z4 => ((x4 = 0 → CI l (h + 12) m_R_is [.ref 119, .int 12] mi4 ml4 z4 (fun x6 mi6 ml6 z6 => ((x6 = 0 → CV l (h + 12) m_R_fails [.ref 119, .int 2] mi6 ml6 z6 (fun mi8 ml8 z8 => Q mi8 ml8 z8)) ∧ (¬ x6 = 0 → CV l (h + 12) m_R_readIf [.ref 119, .int (nI d)] mi6 ml6 z6 (fun mi9 ml9 z9 => Q mi9 ml9 z9))))) ∧ (¬ x4 = 0 → CI l (h + 12) m_R_goesIn [.ref 119, .int (nI d)] mi4 ml4 z4 (fun x10 mi10 ml10 z10 => ((¬ x10 = 0 → CV l (h + 12) m_R_readSum [.ref 119, .int (nI d + 1)] mi10 ml10 z10 (fun mi12 ml12 z12 => CI l (h + 12) m_R_eats [.ref 119, .int 36] mi12 ml12 z12 (fun x13 mi13 ml13 z13 => ((¬ x13 = 0 → Q mi13 ml13 z13) ∧ (x13 = 0 → CV l (h + 12) m_R_fails [.ref 119, .int 2] mi13 ml13 z13 (fun mi15 ml15 z15 => Q mi15 ml15 z15)))))) ∧ (x10 = 0 → Q mi10 ml10 z10)))))) := fun n21 nv => by
    refine c_R_is hP (c := 35) (by decide) rk35 (fun q => ⟨fun e => absurd e (by decide), fun _ => ?_⟩) (fun q => ⟨fun _ => c_R_is hP (c := 12) (by decide) rk12 (fun q2 => ⟨fun e => absurd e (by decide), fun _ => ?_⟩) (fun q2 => ⟨fun _ => ?_, fun e => absurd rfl e⟩), fun e => absurd rfl e⟩)
    · have lt := zAdv_lt (tp := tp) ok q.1 (by rw [q.2]; decide)
      refine c_R_goesIn hP q.1 hd (fun d6 m1 F1 P1 => ⟨fun _ => ?_, fun e => absurd e (by decide)⟩) (fun d6 m1 F1 P1 => ⟨fun e => absurd rfl e, fun _ => ?_⟩)
      · have e : pz tp n (f + 1) 2 d s a = (zXp tp n 41 (pz tp n f 0 (d + 1) (zAdv tp n s) a).1, (pz tp n f 0 (d + 1) (zAdv tp n s) a).2) := (if_neg n21).trans ((if_neg nv).trans ((if_pos q).trans (if_pos d6)))
        rw [e] at hq
        rw [nI_1]
        refine hS (h + 12) (d + 1) _ a m1 ml z c _ (show 16 * (n - zQ (zAdv tp n s)) + 5 ≤ f by omega) (by omega) (by omega) P1 (by rw [F1.f]; exact h11) hc (fun _ => by have := hz q.1; omega) (fun m2 C2 => c_eatsF (K := Q) C2.1 (c := 36) (by decide) rk36 (fun m3 F3 P3 => hq m3 ?_))
        exact C2.tok F1 F3 P3 zAdv_0.mp (zAdv_Q ok) (fun k => (zXp_0 k).1) (zXp_Q C2.1.2.1).1
      · have e : pz tp n (f + 1) 2 d s a = (zRf 4 s, a) := (if_neg n21).trans ((if_neg nv).trans ((if_pos q).trans (if_neg d6)))
        rw [e] at hq
        exact hq m1 (r_rf F1 P1 h11 hc (by decide))
    · have lt := zAdv_lt (tp := tp) ok q2.1 (by rw [q2.2]; decide)
      have e : pz tp n (f + 1) 2 d s a = (if d < 6 then pz tp n f 10 (d + 1) (zAdv tp n s) a else (zRf 4 s, a)) := (if_neg n21).trans ((if_neg nv).trans ((if_neg q).trans (if_pos q2)))
      rw [e] at hq
      exact hI (h + 12) d s a mi ml z c _ (show 16 * (n - zQ (zAdv tp n s)) + 12 ≤ f by omega) hd (by omega) hP q2 h11 hc (hz q2.1) hq
    · have e : pz tp n (f + 1) 2 d s a = (zRf 2 s, a) := (if_neg n21).trans ((if_neg nv).trans ((if_neg q).trans (if_neg q2)))
      rw [e] at hq
      exact c_R_fails hP (w := 2) (by decide) (by decide) (fun m1 F1 P1 => hq m1 (r_rf F1 P1 h11 hc (by decide)))
  refine t_R_readAtom mi ml z _ (c_R_is hP (c := 23) (by decide) rk23 (fun q => ⟨fun e => absurd e (by decide), fun _ => ?_⟩) (fun q => ⟨fun _ => ?_, fun e => absurd rfl e⟩))
  · have e : pz tp n (f + 1) 2 d s a = (zAdv tp n s, fun _ => nI (zV s)) := if_pos q
    rw [e] at hq
    have lt := zAdv_lt (tp := tp) ok q.1 (by rw [q.2]; decide)
    have hzq := hz q.1
    rw [hP.2.2.2.2.2.1 q.2]
    refine c_R_codes hP h11 hc (fun _ => by omega) (fun m1 c1 F1 P1 s1 k1 k2 k3 => c_R_adv P1 q.1 (fun m2 F2 P2 => hq m2 ?_))
    obtain ⟨j1, j2, j3⟩ := k3 q.1
    refine ⟨P2, F1.trans F2.p, fun k hk => by rw [F2.f, s1 k hk], zAdv_Q ok, c1, by rw [F2.f]; exact k1, k2, fun _ => ?_⟩
    rw [j1]
    refine ⟨q.1, by omega, by dsimp only; omega, fun j hj => by rw [F2.f, j3 j (by omega)], RS_one (fun W _ t => ?_)⟩
    rw [F2.f, j2]
    exact rst_num ok.2.2.2.2.2.1
  · have hK := ok.2.2.1
    rw [zF_r hP]
    refine ⟨fun q0 => other q (fun v => q0 v.1), fun q0 => ?_⟩
    have e9 := hP.2.2.2.1
    rw [e9]
    refine c_R_wordOf hK ⟨fun k => other q (fun v => ?_), fun k => ?_⟩
    · unfold wv at k
      rw [if_pos ⟨v.2.1, v.2.2⟩] at k
      exact neg1_ne (by omega) k
    · have v : 1 ≤ zK s ∧ zK s ≤ 6 := by
        by_cases v : 1 ≤ zK s ∧ zK s ≤ 6
        · exact v
        · unfold wv at k
          rw [if_neg v] at k
          exact absurd rfl k
      rw [e9]
      refine c_R_wordOf hK ?_
      have ew : wv (zK s) = nI (zK s - 1) := by unfold wv; rw [if_pos v]
      rw [ew, show (1000 : Int32) + nI (zK s - 1) = nI (1000 + (zK s - 1)) from addL 1000 (zK s - 1)]
      have e : pz tp n (f + 1) 2 d s a = (zAdv tp n s, fun W => W (zK s - 1)) := (if_neg q).trans (if_pos ⟨q0, v.1, v.2⟩)
      rw [e] at hq
      have lt := zAdv_lt (tp := tp) ok q0 (by omega)
      have hzq := hz q0
      refine c_R_codes hP h11 hc (fun _ => by omega) (fun m1 c1 F1 P1 s1 k1 k2 k3 => c_R_adv P1 q0 (fun m2 F2 P2 => hq m2 ?_))
      obtain ⟨j1, j2, j3⟩ := k3 q0
      refine ⟨P2, F1.trans F2.p, fun k hk => by rw [F2.f, s1 k hk], zAdv_Q ok, c1, by rw [F2.f]; exact k1, k2, fun _ => ?_⟩
      rw [j1]
      refine ⟨q0, by omega, by dsimp only; omega, fun j hj => by rw [F2.f, j3 j (by omega)], RS_one (fun W _ t => ?_)⟩
      rw [F2.f, j2]
      exact rst_var (by omega)
theorem r_all (l : Launch) (tp : Nat → Nat) (n : Nat) : ∀ f, KR l tp n f m_R_readSum 0 2 ∧ KR l tp n f m_R_readTerm 1 1 ∧ KR l tp n f m_R_readAtom 2 0 ∧ KR l tp n f m_R_readTruth 3 5 ∧ KR l tp n f m_R_readBoth 4 4 ∧ KR l tp n f m_R_readUnit 5 3 ∧ KRL l tp n f m_R_readSum [.retAddr 0] 6 2 ∧ KRL l tp n f m_R_readTerm [] 7 1 ∧ KRL l tp n f m_R_readTruth [] 8 5 ∧ KRL l tp n f m_R_readBoth [] 9 4 ∧ KRI l tp n f ∧ KRX l tp n f := by
  have z0 : ∀ {x m : Nat}, 16 * x + wt m ≤ 0 → 1 ≤ wt m → False := fun h1 h2 => by omega
  intro f
  induction f with
  | zero =>
    exact ⟨fun _ _ _ _ _ _ _ _ _ hm => (z0 hm (by decide)).elim, fun _ _ _ _ _ _ _ _ _ hm => (z0 hm (by decide)).elim, fun _ _ _ _ _ _ _ _ _ hm => (z0 hm (by decide)).elim, fun _ _ _ _ _ _ _ _ _ hm => (z0 hm (by decide)).elim, fun _ _ _ _ _ _ _ _ _ hm => (z0 hm (by decide)).elim, fun _ _ _ _ _ _ _ _ _ hm => (z0 hm (by decide)).elim, fun _ _ _ _ _ _ _ _ _ _ hm => (z0 hm (by decide)).elim, fun _ _ _ _ _ _ _ _ _ _ hm => (z0 hm (by decide)).elim, fun _ _ _ _ _ _ _ _ _ _ hm => (z0 hm (by decide)).elim, fun _ _ _ _ _ _ _ _ _ _ hm => (z0 hm (by decide)).elim, fun _ _ _ _ _ _ _ _ _ hm => (z0 hm (by decide)).elim, fun _ _ _ _ _ _ _ _ _ _ hm => (z0 hm (by decide)).elim⟩
  | succ f ih =>
    obtain ⟨a0, a1, a2, a3, a4, a5, a6, a7, a8, a9, a10, a11⟩ := ih
    exact ⟨r_head a1 a6 (by decide) (by decide) (by decide) (fun h d mi ml z Q H => t_R_readSum mi ml z _ H) (fun _ _ _ => rfl),
      r_head a2 a7 (by decide) (by decide) (by decide) (fun h d mi ml z Q H => t_R_readTerm mi ml z _ H) (fun _ _ _ => rfl),
      r_atom a0 a10,
      r_head a4 a8 (by decide) (by decide) (by decide) (fun h d mi ml z Q H => t_R_readTruth mi ml z _ H) (fun _ _ _ => rfl),
      r_head a5 a9 (by decide) (by decide) (by decide) (fun h d mi ml z Q H => t_R_readBoth mi ml z _ H) (fun _ _ _ => rfl),
      r_unit a5 a3 a0 a11, r_sumL a1 a6, r_termL a2 a7, r_truthL a4 a8, r_bothL a5 a9, r_if a3 a0, r_cmp a0⟩
