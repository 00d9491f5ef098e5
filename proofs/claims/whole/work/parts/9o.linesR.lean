/-! ===== the reference reads lines ===== -/
def RLc (g : Nat → Int32) (w c : Nat) (f : FF) : Prop := (g (3 + w) = 0 ∧ ∀ W, f W = 1) ∨ (¬ g (3 + w) = 0 ∧ ∃ (fr : Nat) (cs : List Int32), g (5 + w) = nI fr ∧ g (7 + w) = nI cs.length ∧ fr + cs.length ≤ c ∧ (∀ k, k < cs.length → cs[k]? = some (g (471 + fr + k))) ∧ Rseg cs f)
def RK (g : Nat → Int32) (a : Ln) (q : Nat) : Prop := ∃ c, g 470 = nI c ∧ c ≤ q ∧ c ≤ 900 ∧ RLc g 0 c (nL a) ∧ RLc g 1 c (nT a)
def DR (g : Nat → Int32) (B R : Nat) (a : Ln) (d : Dt) (q : Nat) : Prop := g 0 = nI (nN a) ∧ g 1 = nI B ∧ g 2 = nI R ∧ (∀ b, b < 6 → g (9 + b) = nI (nM a b) ∧ g (15 + b) = nI (nD a b) ∧ g (29 + b) = oI (dW d b) ∧ g (35 + b) = nI (dF d b)) ∧ (∀ r, r < 4 → g (21 + r) = nI (nNm a r) ∧ g (25 + r) = nI (nBs a r) ∧ g (41 + r) = nI (dR d r)) ∧ (∀ k, 45 ≤ k → k < 470 → g k = 0) ∧ RK g a q
theorem RLc.fr {g g' : Nat → Int32} {w c : Nat} {f : FF} (h : RLc g w c f) (hw : w < 2) (e : ∀ k, (3 ≤ k ∧ k < 9) ∨ (471 ≤ k ∧ k < 471 + c) → g' k = g k) : RLc g' w c f := by
  rcases h with ⟨h1, h2⟩ | ⟨h1, fr, cs, h2, h3, h4, h5, h6⟩
  · exact Or.inl ⟨by rw [e _ (by omega)]; exact h1, h2⟩
  · exact Or.inr ⟨by rw [e _ (by omega)]; exact h1, fr, cs, by rw [e _ (by omega)]; exact h2, by rw [e _ (by omega)]; exact h3, h4, fun k hk => by rw [e _ (by omega)]; exact h5 k hk, h6⟩
theorem RLc.law {g : Nat → Int32} {w c : Nat} {f : FF} (h : RLc g w c f) (hc : c ≤ 900) : RLaw g w f := by
  rcases h with h | ⟨h1, fr, cs, h2, h3, h4, h5, h6⟩
  · exact Or.inl h
  · exact Or.inr ⟨h1, fr, cs, h2, h3, by omega, h5, h6⟩
theorem RLc.mono {g : Nat → Int32} {w c c' : Nat} {f : FF} (h : RLc g w c f) (hc : c ≤ c') : RLc g w c' f := by
  rcases h with h | ⟨h1, fr, cs, h2, h3, h4, h5, h6⟩
  · exact Or.inl h
  · exact Or.inr ⟨h1, fr, cs, h2, h3, by omega, h5, h6⟩
theorem RK.upd {g : Nat → Int32} {a a' : Ln} {q k : Nat} {x : Int32} (h : RK g a q) (h1 : k < 3 ∨ 9 ≤ k) (h2 : k < 470) (eL : nL a' = nL a) (eT : nT a' = nT a) : RK (upd g k x) a' q := by
  obtain ⟨c, k1, k2, k3, k4, k5⟩ := h
  rw [← eL] at k4
  rw [← eT] at k5
  exact ⟨c, by rw [upd_ne _ _ (by omega)]; exact k1, k2, k3, k4.fr (by decide) (fun j hj => upd_ne _ _ (by omega)), k5.fr (by decide) (fun j hj => upd_ne _ _ (by omega))⟩
theorem DR.mono {g : Nat → Int32} {B R : Nat} {a : Ln} {d : Dt} {q q' : Nat} (h : DR g B R a d q) (hq : q ≤ q') : DR g B R a d q' := by
  obtain ⟨h1, h2, h3, h4, h5, h6, c, k1, k2, k3⟩ := h
  exact ⟨h1, h2, h3, h4, h5, h6, c, k1, by omega, k3⟩
theorem DR.sM {g : Nat → Int32} {B R : Nat} {a : Ln} {d : Dt} {q b v : Nat} (h : DR g B R a d q) (hb : b < 6) : DR (upd g (9 + b) (nI v)) B R (setM a b v) d q := by
  obtain ⟨h1, h2, h3, h4, h5, h6, h7⟩ := h
  refine ⟨by rw [upd_ne _ _ (by omega)]; exact h1, by rw [upd_ne _ _ (by omega)]; exact h2, by rw [upd_ne _ _ (by omega)]; exact h3, fun i hi => ?_, fun r hr => ?_, fun k k1 k2 => by rw [upd_ne _ _ (by omega)]; exact h6 k k1 k2, h7.upd (by omega) (by omega) rfl rfl⟩
  · obtain ⟨a1, a2, a3, a4⟩ := h4 i hi
    refine ⟨?_, by rw [upd_ne _ _ (by omega)]; exact a2, by rw [upd_ne _ _ (by omega)]; exact a3, by rw [upd_ne _ _ (by omega)]; exact a4⟩
    show _ = nI (if i = b then v else nM a i)
    by_cases c : i = b
    · rw [c, upd_at, if_pos rfl]
    · rw [upd_ne _ _ (by omega), if_neg c]; exact a1
  · rw [upd_ne _ _ (by omega), upd_ne _ _ (by omega), upd_ne _ _ (by omega)]; exact h5 r hr
theorem DR.sD {g : Nat → Int32} {B R : Nat} {a : Ln} {d : Dt} {q b v : Nat} (h : DR g B R a d q) (hb : b < 6) : DR (upd g (15 + b) (nI v)) B R (setD a b v) d q := by
  obtain ⟨h1, h2, h3, h4, h5, h6, h7⟩ := h
  refine ⟨by rw [upd_ne _ _ (by omega)]; exact h1, by rw [upd_ne _ _ (by omega)]; exact h2, by rw [upd_ne _ _ (by omega)]; exact h3, fun i hi => ?_, fun r hr => ?_, fun k k1 k2 => by rw [upd_ne _ _ (by omega)]; exact h6 k k1 k2, h7.upd (by omega) (by omega) rfl rfl⟩
  · obtain ⟨a1, a2, a3, a4⟩ := h4 i hi
    refine ⟨by rw [upd_ne _ _ (by omega)]; exact a1, ?_, by rw [upd_ne _ _ (by omega)]; exact a3, by rw [upd_ne _ _ (by omega)]; exact a4⟩
    show _ = nI (if i = b then v else nD a i)
    by_cases c : i = b
    · rw [c, upd_at, if_pos rfl]
    · rw [upd_ne _ _ (by omega), if_neg c]; exact a2
  · rw [upd_ne _ _ (by omega), upd_ne _ _ (by omega), upd_ne _ _ (by omega)]; exact h5 r hr
theorem DR.sW {g : Nat → Int32} {B R : Nat} {a : Ln} {d : Dt} {q b : Nat} {x : Option Nat} (h : DR g B R a d q) (hb : b < 6) : DR (upd g (29 + b) (oI x)) B R a (setW d b x) q := by
  obtain ⟨h1, h2, h3, h4, h5, h6, h7⟩ := h
  refine ⟨by rw [upd_ne _ _ (by omega)]; exact h1, by rw [upd_ne _ _ (by omega)]; exact h2, by rw [upd_ne _ _ (by omega)]; exact h3, fun i hi => ?_, fun r hr => ?_, fun k k1 k2 => by rw [upd_ne _ _ (by omega)]; exact h6 k k1 k2, h7.upd (by omega) (by omega) rfl rfl⟩
  · obtain ⟨a1, a2, a3, a4⟩ := h4 i hi
    refine ⟨by rw [upd_ne _ _ (by omega)]; exact a1, by rw [upd_ne _ _ (by omega)]; exact a2, ?_, by rw [upd_ne _ _ (by omega)]; exact a4⟩
    show _ = oI (if i = b then x else dW d i)
    by_cases c : i = b
    · rw [c, upd_at, if_pos rfl]
    · rw [upd_ne _ _ (by omega), if_neg c]; exact a3
  · rw [upd_ne _ _ (by omega), upd_ne _ _ (by omega), upd_ne _ _ (by omega)]; exact h5 r hr
theorem DR.sF {g : Nat → Int32} {B R : Nat} {a : Ln} {d : Dt} {q b v : Nat} (h : DR g B R a d q) (hb : b < 6) : DR (upd g (35 + b) (nI v)) B R (aB a) (setF d b v) q := by
  obtain ⟨h1, h2, h3, h4, h5, h6, h7⟩ := h
  refine ⟨by rw [upd_ne _ _ (by omega)]; exact h1, by rw [upd_ne _ _ (by omega)]; exact h2, by rw [upd_ne _ _ (by omega)]; exact h3, fun i hi => ?_, fun r hr => ?_, fun k k1 k2 => by rw [upd_ne _ _ (by omega)]; exact h6 k k1 k2, h7.upd (by omega) (by omega) rfl rfl⟩
  · obtain ⟨a1, a2, a3, a4⟩ := h4 i hi
    refine ⟨by rw [upd_ne _ _ (by omega)]; exact a1, by rw [upd_ne _ _ (by omega)]; exact a2, by rw [upd_ne _ _ (by omega)]; exact a3, ?_⟩
    show _ = nI (if i = b then v else dF d i)
    by_cases c : i = b
    · rw [c, upd_at, if_pos rfl]
    · rw [upd_ne _ _ (by omega), if_neg c]; exact a4
  · rw [upd_ne _ _ (by omega), upd_ne _ _ (by omega), upd_ne _ _ (by omega)]; exact h5 r hr
theorem DR.sNm {g : Nat → Int32} {B R : Nat} {a : Ln} {d : Dt} {q b v : Nat} (h : DR g B R a d q) (hb : b < 4) : DR (upd g (21 + b) (nI v)) B R (setNm a b v) d q := by
  obtain ⟨h1, h2, h3, h4, h5, h6, h7⟩ := h
  refine ⟨by rw [upd_ne _ _ (by omega)]; exact h1, by rw [upd_ne _ _ (by omega)]; exact h2, by rw [upd_ne _ _ (by omega)]; exact h3, fun r hr => ?_, fun i hi => ?_, fun k k1 k2 => by rw [upd_ne _ _ (by omega)]; exact h6 k k1 k2, h7.upd (by omega) (by omega) rfl rfl⟩
  · rw [upd_ne _ _ (by omega), upd_ne _ _ (by omega), upd_ne _ _ (by omega), upd_ne _ _ (by omega)]; exact h4 r hr
  · obtain ⟨a1, a2, a3⟩ := h5 i hi
    refine ⟨?_, by rw [upd_ne _ _ (by omega)]; exact a2, by rw [upd_ne _ _ (by omega)]; exact a3⟩
    show _ = nI (if i = b then v else nNm a i)
    by_cases c : i = b
    · rw [c, upd_at, if_pos rfl]
    · rw [upd_ne _ _ (by omega), if_neg c]; exact a1
theorem DR.sBs {g : Nat → Int32} {B R : Nat} {a : Ln} {d : Dt} {q b v : Nat} (h : DR g B R a d q) (hb : b < 4) : DR (upd g (25 + b) (nI v)) B R (setBs a b v) d q := by
  obtain ⟨h1, h2, h3, h4, h5, h6, h7⟩ := h
  refine ⟨by rw [upd_ne _ _ (by omega)]; exact h1, by rw [upd_ne _ _ (by omega)]; exact h2, by rw [upd_ne _ _ (by omega)]; exact h3, fun r hr => ?_, fun i hi => ?_, fun k k1 k2 => by rw [upd_ne _ _ (by omega)]; exact h6 k k1 k2, h7.upd (by omega) (by omega) rfl rfl⟩
  · rw [upd_ne _ _ (by omega), upd_ne _ _ (by omega), upd_ne _ _ (by omega), upd_ne _ _ (by omega)]; exact h4 r hr
  · obtain ⟨a1, a2, a3⟩ := h5 i hi
    refine ⟨by rw [upd_ne _ _ (by omega)]; exact a1, ?_, by rw [upd_ne _ _ (by omega)]; exact a3⟩
    show _ = nI (if i = b then v else nBs a i)
    by_cases c : i = b
    · rw [c, upd_at, if_pos rfl]
    · rw [upd_ne _ _ (by omega), if_neg c]; exact a2
theorem DR.sR {g : Nat → Int32} {B R : Nat} {a : Ln} {d : Dt} {q b v : Nat} (h : DR g B R a d q) (hb : b < 4) : DR (upd g (41 + b) (nI v)) B R (aR a) (setR d b v) q := by
  obtain ⟨h1, h2, h3, h4, h5, h6, h7⟩ := h
  refine ⟨by rw [upd_ne _ _ (by omega)]; exact h1, by rw [upd_ne _ _ (by omega)]; exact h2, by rw [upd_ne _ _ (by omega)]; exact h3, fun r hr => ?_, fun i hi => ?_, fun k k1 k2 => by rw [upd_ne _ _ (by omega)]; exact h6 k k1 k2, h7.upd (by omega) (by omega) rfl rfl⟩
  · rw [upd_ne _ _ (by omega), upd_ne _ _ (by omega), upd_ne _ _ (by omega), upd_ne _ _ (by omega)]; exact h4 r hr
  · obtain ⟨a1, a2, a3⟩ := h5 i hi
    refine ⟨by rw [upd_ne _ _ (by omega)]; exact a1, by rw [upd_ne _ _ (by omega)]; exact a2, ?_⟩
    show _ = nI (if i = b then v else dR d i)
    by_cases c : i = b
    · rw [c, upd_at, if_pos rfl]
    · rw [upd_ne _ _ (by omega), if_neg c]; exact a3
theorem DR.cB {g : Nat → Int32} {B B' R : Nat} {a : Ln} {d : Dt} {q : Nat} (h : DR g B R a d q) : DR (upd g 1 (nI B')) B' R a d q := by
  obtain ⟨h1, h2, h3, h4, h5, h6, h7⟩ := h
  exact ⟨by rw [upd_ne _ _ (by omega)]; exact h1, upd_at _ _ _, by rw [upd_ne _ _ (by omega)]; exact h3, fun r hr => by rw [upd_ne _ _ (by omega), upd_ne _ _ (by omega), upd_ne _ _ (by omega), upd_ne _ _ (by omega)]; exact h4 r hr, fun r hr => by rw [upd_ne _ _ (by omega), upd_ne _ _ (by omega), upd_ne _ _ (by omega)]; exact h5 r hr, fun k k1 k2 => by rw [upd_ne _ _ (by omega)]; exact h6 k k1 k2, h7.upd (by omega) (by omega) rfl rfl⟩
theorem DR.cR {g : Nat → Int32} {B R R' : Nat} {a : Ln} {d : Dt} {q : Nat} (h : DR g B R a d q) : DR (upd g 2 (nI R')) B R' a d q := by
  obtain ⟨h1, h2, h3, h4, h5, h6, h7⟩ := h
  exact ⟨by rw [upd_ne _ _ (by omega)]; exact h1, by rw [upd_ne _ _ (by omega)]; exact h2, upd_at _ _ _, fun r hr => by rw [upd_ne _ _ (by omega), upd_ne _ _ (by omega), upd_ne _ _ (by omega), upd_ne _ _ (by omega)]; exact h4 r hr, fun r hr => by rw [upd_ne _ _ (by omega), upd_ne _ _ (by omega), upd_ne _ _ (by omega)]; exact h5 r hr, fun k k1 k2 => by rw [upd_ne _ _ (by omega)]; exact h6 k k1 k2, h7.upd (by omega) (by omega) rfl rfl⟩
theorem DR.cN {g : Nat → Int32} {B R : Nat} {a : Ln} {d : Dt} {q : Nat} (h : DR g B R a d q) : DR (upd g 0 (g 0 + 1)) B R (aN a) d q := by
  obtain ⟨h1, h2, h3, h4, h5, h6, h7⟩ := h
  exact ⟨by rw [upd_at, h1, nI_1]; rfl, by rw [upd_ne _ _ (by omega)]; exact h2, by rw [upd_ne _ _ (by omega)]; exact h3, fun r hr => by rw [upd_ne _ _ (by omega), upd_ne _ _ (by omega), upd_ne _ _ (by omega), upd_ne _ _ (by omega)]; exact h4 r hr, fun r hr => by rw [upd_ne _ _ (by omega), upd_ne _ _ (by omega), upd_ne _ _ (by omega)]; exact h5 r hr, fun k k1 k2 => by rw [upd_ne _ _ (by omega)]; exact h6 k k1 k2, h7.upd (by omega) (by omega) rfl rfl⟩
def LR (tp : Nat → Nat) (n : Nat) (mi mi' : TMi) (s : PS) (r : PS × Ln × Dt) : Prop := RP mi' tp n r.1 ∧ FP mi mi' ∧ zQ s ≤ zQ r.1 ∧ (zF r.1 = 0 → zF s = 0 ∧ DR (mi' 123) (nB r.2.1) (nR r.2.1) r.2.1 r.2.2 (zQ r.1) ∧ okz r.2.1 r.2.2)
theorem LR_seq {tp : Nat → Nat} {n : Nat} {mi m1 m2 : TMi} {s s1 : PS} {r : PS × Ln × Dt} (F : FP mi m1) (q : zQ s ≤ zQ s1) (g : zF s1 = 0 → zF s = 0) (C : LR tp n m1 m2 s1 r) : LR tp n mi m2 s r := ⟨C.1, F.trans C.2.1, by have := C.2.2.1; omega, fun k => ⟨g (C.2.2.2 k).1, (C.2.2.2 k).2⟩⟩
theorem c_R_inRiver {l : Launch} {h : Nat} {mi : TMi} {ml : TMl} {z r : Nat} {wo : Nat → Option Nat} {Q : Int32 → TMi → TMl → Nat → Prop} (hr : r < 1000) (hw : ∀ b, b < 6 → mi 123 (29 + b) = oI (wo b)) (hw2 : ∀ b k, wo b = some k → k < 4) (hq : Q (nI (cnt (inn wo r) 6)) mi ml z) : CI l (h + 1) m_R_inRiver [.ref 119, .int (nI r)] mi ml z Q := by
  refine t_R_inRiver mi ml z _ ?_
  refine loop (P := fun i => Ev l (h + 1) m_R_inRiver 4 ([.ref 119, .int (nI r), .int (nI (cnt (inn wo r) i)), .int (nI i)], [], st mi ml z) (qI Q)) 6 ?_ (fun i hi ih => ?_)
  · exact t_R_inRiver_4 mi ml z _ _ _ ⟨fun _ => hq, fun c => absurd (by decide) c⟩
  · refine t_R_inRiver_4 mi ml z _ _ _ ⟨fun c => absurd c (ge_no (N := 6) rfl (by decide) hi), fun _ => ?_⟩
    rw [show (29 : Int32) + nI i = nI (29 + i) from addL 29 i]
    refine ⟨in_nI (by omega) (by decide), ?_⟩
    rw [cl_nI (by omega), hw i hi, oI_eq (fun k hk => by have := hw2 i k hk; omega) (by omega), nI_1]
    refine ⟨fun c => ?_, fun c => ?_⟩
    · rw [Int32.add_zero, cnt_n (show inn wo r i = false by unfold inn; exact beq_eq_false_iff_ne.mpr c)]
      exact ih
    · rw [cnt_s (show inn wo r i = true by unfold inn; rw [c]; exact beq_self_eq_true _)]
      exact ih
theorem cnt_ext {wo : Nat → Option Nat} {r B : Nat} (h : ∀ b, B ≤ b → wo b = none) : ∀ k, cnt (inn wo r) (B + k) = cnt (inn wo r) B
  | 0 => rfl
  | k + 1 => by
    have e : inn wo r (B + k) = false := by unfold inn; rw [h _ (by omega)]; rfl
    show cnt (inn wo r) (B + k + 1) = _
    simp only [cnt]
    rw [if_neg (by rw [e]; decide)]
    exact cnt_ext h k
