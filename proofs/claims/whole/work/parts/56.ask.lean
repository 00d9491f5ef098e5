/-! ===== the class's answers about all that hold ===== -/
/-- what the class uses for a call alone -/
abbrev SC : List Nat := [15, 16, 33, 34, 35, 36, 37, 38, 39, 54, 55, 56, 57, 58, 59, 60, 61, 62, 63, 64, 65, 66, 67, 68, 69, 70, 71, 72, 73, 74, 75, 76, 77]
theorem cnt_z {p : Nat → Bool} : ∀ {n : Nat}, (∀ b, b < n → p b = false) → cnt p n = 0
  | 0, _ => rfl
  | n + 1, h => by simp only [cnt, h n (by omega)]; exact cnt_z (fun b hb => h b (by omega))
theorem chW_0 (b : Nat) : chW 0 b = none := by simp [chW, undg]
theorem c_Sv_goThrough {l : Launch} {h : Nat} {mi : TMi} {ml : TMl} {z : Nat} {a : Ln} {d : Dt} {w : Int32} {Q : TMi → TMl → Nat → Prop} (hA : CA mi a d)
    (hq : ∀ mi', Fr SC mi mi' → SurS mi' a d w (hlA a d) → Q mi' ml 17) : CV l (h + nB a + 8) m_Sv_goThrough [.ref 60, .ref 17, .int w] mi ml z Q := by
  have ha := hA.1
  have hB6 := ha.1
  have hR4 := ha.2.1
  refine t_Sv_goThrough mi ml z _ ?_
  have F0 : Fr SC mi (up (up (up (up (up mi 60 7 w) 60 8 (-1)) 60 9 0) 60 10 (-1)) 60 11 10) := ((((((Fr_up _ _ _ _).weak (by simp)).step ((Fr_up _ _ _ _).weak (by simp))).step ((Fr_up _ _ _ _).weak (by simp))).step ((Fr_up _ _ _ _).weak (by simp))).step ((Fr_up _ _ _ _).weak (by simp)))
  have g7 : (up (up (up (up (up mi 60 7 w) 60 8 (-1)) 60 9 0) 60 10 (-1)) 60 11 10) 60 7 = w := by rw [up_nk _ _ _ (by decide), up_nk _ _ _ (by decide), up_nk _ _ _ (by decide), up_nk _ _ _ (by decide), up_at]
  have g8 : (up (up (up (up (up mi 60 7 w) 60 8 (-1)) 60 9 0) 60 10 (-1)) 60 11 10) 60 8 = -1 := by rw [up_nk _ _ _ (by decide), up_nk _ _ _ (by decide), up_nk _ _ _ (by decide), up_at]
  have g9 : (up (up (up (up (up mi 60 7 w) 60 8 (-1)) 60 9 0) 60 10 (-1)) 60 11 10) 60 9 = 0 := by rw [up_nk _ _ _ (by decide), up_nk _ _ _ (by decide), up_at]
  have g10 : (up (up (up (up (up mi 60 7 w) 60 8 (-1)) 60 9 0) 60 10 (-1)) 60 11 10) 60 10 = -1 := by rw [up_nk _ _ _ (by decide), up_at]
  have g11 : (up (up (up (up (up mi 60 7 w) 60 8 (-1)) 60 9 0) 60 10 (-1)) 60 11 10) 60 11 = 10 := up_at _ _ _ _
  generalize up (up (up (up (up mi 60 7 w) 60 8 (-1)) 60 9 0) 60 10 (-1)) 60 11 10 = m0 at F0 g7 g8 g9 g10 g11 ⊢
  refine c_fill (n := 6) rfl (by decide) (fun m1 F1 k1 => ⟨rfl, c_fill (n := 4) rfl (by decide) (fun m2 F2 k2 => ⟨rfl, c_fill (n := 4) rfl (by decide) (fun m3 F3 k3 => ⟨rfl, ?_⟩)⟩)⟩)
  have FF : Fr SC mi m3 := ((F0.step (F1.weak (by simp))).step (F2.weak (by simp))).step (F3.weak (by simp))
  have hA3 : CA m3 a d := hA.of FF (by decide)
  rw [show h + nB a + 8 = (h + nB a + 1) + 6 + 1 by omega]
  refine c_Sv_bound hA3 (fun m4 be wo F4 hw1 hw2 hbe hwo => ⟨rfl, ?_⟩)
  have F34 : Fr SC mi m4 := FF.step (F4.weak (by simp))
  have e60 : m4 60 = m0 60 := by rw [F4 60 (by decide), F3 60 (by decide), F2 60 (by decide), F1 60 (by decide)]
  have e66 : m4 66 = m1 66 := by rw [F4 66 (by decide), F3 66 (by decide), F2 66 (by decide)]
  have e67 : m4 67 = m2 67 := by rw [F4 67 (by decide), F3 67 (by decide)]
  have e65 : m4 65 = m3 65 := F4 65 (by decide)
  refine loop (P := fun i => ∀ m, Fr SC mi m → Fr [63] m4 m → (∀ b, b < i → m 63 b = nI (enc (opn a d be wo b) (nR a))) → Ev l (h + nB a + 1 + 6 + 1) m_Sv_goThrough 62 ([.ref 60, .ref 17, .retAddr 0, .int (nI i)], [], st m ml 17) (qV Q)) (nB a) (fun m F Fm hk => ?_) (fun i hi ih m F Fm hk => ?_) m4 F34 (Fr.refl _ _) (fun b hb => absurd hb (Nat.not_lt_zero _))
  · have hAm : CA m a d := hA.of F (by decide)
    refine t_Sv_goThrough_62 m ml 17 _ ⟨fun _ => ?_, fun c => absurd (le_at hAm.2.2.1.1 (by omega)) c⟩
    rw [hAm.2.2.1.1]
    have hp5 := pow5 hB6
    have := c_Sv_placeFrom (l := l) (ml := ml) (w := w) hbe hwo (nB a) (h := h + 1) (mi := m) (c := 0) (ls := []) (Q := Q) (Nat.le_refl _) hAm hk ⟨Nat.zero_mod _, by omega, fun b h1 h2 => by omega, fun r hr => ?_, fun b r e => ?_, fun r hr => ?_⟩ ⟨?_, ?_, ?_, fun b hb => ?_, fun r hr => ?_, ?_, ?_⟩ (by simp only [List.length_nil]; omega) (fun m' F' _ _ hs' => ?_)
    · rw [show h + 1 + nB a + 6 = h + nB a + 1 + 6 by omega] at this
      exact this
    · rw [Fm 65 (by decide), e65, k3 r hr, cnt_z (fun b hb => by simp [inn, chW_0])]; rfl
    · rw [chW_0] at e; cases e
    · rw [cnt_z (fun b hb => by simp [inn, chW_0])]; omega
    · rw [Fm 60 (by decide), e60, g9]; rfl
    · rw [Fm 60 (by decide), e60, g10]; rfl
    · rw [Fm 60 (by decide), e60, g11]; rfl
    · rw [Fm 66 (by decide), e66, k1 b (by omega), show canB [] b = fun _ => false from rfl, enc_none]; rfl
    · rw [Fm 67 (by decide), e67, k2 r (by omega)]; rfl
    · rw [Fm 60 (by decide), e60, g7]
    · rw [Fm 60 (by decide), e60, g8]
      unfold wN
      by_cases q : w.toInt < 0
      · rw [if_pos q]
      · rw [if_neg q]; rfl
    · rw [seg_all, List.nil_append] at hs'
      exact hq m' (F.step (F'.weak (by simp))) hs'
  · have hAm : CA m a d := hA.of F (by decide)
    refine t_Sv_goThrough_62 m ml 17 _ ⟨fun c => absurd c (ge_no hAm.2.2.1.1 (by omega) hi), fun _ => ?_⟩
    rw [show h + nB a + 1 + 6 = (h + nB a + 4) + 3 by omega] at ih ⊢
    refine c_Sv_between hAm (by rw [Fm 61 (by decide)]; exact hw1) (by rw [Fm 62 (by decide)]; exact hw2) hi ⟨in_nI (by omega) (by decide), ?_⟩
    rw [cl_nI (by omega), nI_1]
    refine ih _ (F.step ((Fr_up _ _ _ _).weak (by simp))) (Fm.step (Fr_up _ _ _ _)) (fun b hb => ?_)
    by_cases q : b = i
    · subst q; rw [up_at]
    · rw [up_nk _ _ _ q]; exact hk b (by omega)
theorem c_B_forBecks {l : Launch} {h : Nat} {mi : TMi} {ml : TMl} {z : Nat} {a : Ln} {d : Dt} {x : Int32} {Q : Int32 → TMi → TMl → Nat → Prop} (hA : CA mi a d)
    (hq1 : inB a x → ∀ mi' be, Fr SC mi mi' → BestA a d be → Q (oI (be x.toInt.toNat)) mi' ml z) (hq0 : ¬ inB a x → Q (-2) mi ml z) : CI l (h + 5) m_B_forBecks [.ref 1, .int x] mi ml z Q := by
  have hB6 := hA.1.1
  refine t_B_forBecks mi ml z _ (c_hasBeck hA.2.2.1.1 hB6 ?_)
  refine ⟨fun c => ?_, fun c => ?_⟩
  · rw [bI_0, Bool.not_eq_false, decide_eq_true_eq] at c
    obtain ⟨ex, hb⟩ := inB_nI (a := a) c
    have hq1 := hq1 c
    generalize x.toInt.toNat = b at ex hb hq1
    rw [ex]
    refine c_allBecks hA.2.2.1.1 hB6 (c_best_17 hA (fun m be F hw hbe => ⟨in_nI (by omega) (by decide), ?_⟩))
    rw [cl_nI (by omega), (hw b hb).1]
    exact hq1 m be (F.weak (by simp)) hbe
  · rw [bI_0, decide_eq_false_iff_not] at c
    exact hq0 c
theorem c_B_forRivers {l : Launch} {h : Nat} {mi : TMi} {ml : TMl} {z : Nat} {a : Ln} {d : Dt} {x : Int32} {Q : Int32 → TMi → TMl → Nat → Prop} (hA : CA mi a d)
    (hq1 : inB a x → ∀ mi' wo, Fr SC mi mi' → WorstA a d wo → Q (oI (wo x.toInt.toNat)) mi' ml z) (hq0 : ¬ inB a x → Q (-2) mi ml z) : CI l (h + 6) m_B_forRivers [.ref 1, .int x] mi ml z Q := by
  have hB6 := hA.1.1
  refine t_B_forRivers mi ml z _ (c_hasBeck hA.2.2.1.1 hB6 ?_)
  refine ⟨fun c => ?_, fun c => ?_⟩
  · rw [bI_0, Bool.not_eq_false, decide_eq_true_eq] at c
    obtain ⟨ex, hb⟩ := inB_nI (a := a) c
    have hq1 := hq1 c
    generalize x.toInt.toNat = b at ex hb hq1
    rw [ex]
    refine c_worst_17 hA (fun m be F hw hbe => ⟨in_nI (by omega) (by decide), ?_⟩)
    rw [cl_nI (by omega), (hw b hb).1]
    exact hq1 m be (F.weak (by simp)) hbe
  · rw [bI_0, decide_eq_false_iff_not] at c
    exact hq0 c
theorem c_thru {l : Launch} {h : Nat} {mi : TMi} {ml : TMl} {z : Nat} {a : Ln} {d : Dt} {w : Int32} {Q : TMi → TMl → Nat → Prop} (hA : CA mi a d)
    (hq : ∀ mi', Fr SC mi mi' → SurS mi' a d w (hlA a d) → Q mi' ml 17) : CV l (h + 14) m_Sv_goThrough [.ref 60, .ref 17, .int w] mi ml z Q := by
  have hB6 := hA.1.1
  rw [show h + 14 = (h + (6 - nB a)) + nB a + 8 by omega]
  exact c_Sv_goThrough hA hq
theorem c_B_choices {l : Launch} {h : Nat} {mi : TMi} {ml : TMl} {z : Nat} {a : Ln} {d : Dt} {Q : Int32 → TMi → TMl → Nat → Prop} (hA : CA mi a d) (hq : ∀ mi', Fr SC mi mi' → Q (nI (hlA a d).length) mi' ml 17) : CI l (h + 15) m_B_choices [.ref 1] mi ml z Q := by
  refine t_B_choices mi ml z (c_thru hA (fun m F hs => ?_))
  rw [hs.1]
  exact hq m F
theorem c_B_choice {l : Launch} {h : Nat} {mi : TMi} {ml : TMl} {z : Nat} {a : Ln} {d : Dt} {x : Int32} {Q : Int32 → TMi → TMl → Nat → Prop} (hA : CA mi a d) (hq : ∀ mi' z', Fr SC mi mi' → (z' = z ∨ z' = 17) → Q (chA a d x) mi' ml z') : CI l (h + 15) m_B_choice [.ref 1, .int x] mi ml z Q := by
  unfold chA at hq
  refine t_B_choice mi ml z _ ⟨fun c => c_thru hA (fun m F hs => ?_), fun c => ?_⟩
  · rw [Int32.le_iff_toInt_le, Int32.toInt_zero] at c
    have hq := hq m 17 F (Or.inr rfl)
    rw [if_neg (by omega)] at hq
    rw [hs.2.2.2.2.2.2]
    unfold wN
    rw [if_neg (by omega)]
    exact hq
  · rw [Int32.le_iff_toInt_le, Int32.toInt_zero] at c
    have hq := hq mi z (Fr.refl _ _) (Or.inl rfl)
    rw [if_pos (by omega)] at hq
    exact hq
theorem c_B_can {l : Launch} {h : Nat} {mi : TMi} {ml : TMl} {z : Nat} {a : Ln} {d : Dt} {x : Int32} {Q : Int32 → TMi → TMl → Nat → Prop} (hA : CA mi a d) (hq : ∀ mi' z', Fr SC mi mi' → (z' = z ∨ z' = 17) → Q (if inB a x then nI (enc (canB (hlA a d) x.toInt.toNat) 4) else -2) mi' ml z') : CI l (h + 15) m_B_can [.ref 1, .int x] mi ml z Q := by
  have hB6 := hA.1.1
  refine t_B_can mi ml z _ (c_hasBeck hA.2.2.1.1 hB6 ⟨fun c => c_thru hA (fun m F hs => ?_), fun c => ?_⟩)
  · rw [bI_0, Bool.not_eq_false, decide_eq_true_eq] at c
    obtain ⟨ex, hb⟩ := inB_nI (a := a) c
    have hq := hq m 17 F (Or.inr rfl)
    rw [if_pos c] at hq
    generalize x.toInt.toNat = b at ex hb hq
    rw [ex]
    refine ⟨in_nI (by omega) (by decide), ?_⟩
    rw [cl_nI (by omega), hs.2.2.2.1 b hb]
    exact hq
  · rw [bI_0, decide_eq_false_iff_not] at c
    have hq := hq mi z (Fr.refl _ _) (Or.inl rfl)
    rw [if_neg c] at hq
    exact hq
theorem c_B_sure {l : Launch} {h : Nat} {mi : TMi} {ml : TMl} {z : Nat} {a : Ln} {d : Dt} {Q : Int32 → TMi → TMl → Nat → Prop} (hA : CA mi a d) (hq : ∀ mi' be wo, Fr SC mi mi' → BestA a d be → WorstA a d wo → Q (nI (enc (fun b => decide (be b = wo b)) (nB a))) mi' ml z) : CI l (h + 7) m_B_sure [.ref 1] mi ml z Q := by
  have hB6 := hA.1.1
  have hR4 := hA.1.2.1
  refine t_B_sure mi ml z (c_Sv_bound hA (fun m be wo F hw1 hw2 hbe hwo => ?_))
  have hAm : CA m a d := hA.of F (by simp)
  have hq := hq m be wo (F.weak (by simp)) hbe hwo
  refine loop (P := fun i => Ev l (h + 7) m_B_sure 15 ([.ref 1, .int (nI (enc (fun b => decide (be b = wo b)) i)), .int (nI i)], [], st m ml z) (qI Q)) (nB a) ?_ (fun i hi ih => ?_)
  · exact t_B_sure_15 m ml z _ _ ⟨fun _ => hq, fun c => absurd (le_at hAm.2.2.1.1 (by omega)) c⟩
  · have hin : vp_in (nI i) 6 := in_nI (by omega) (by decide)
    refine t_B_sure_15 m ml z _ _ ⟨fun c => absurd c (ge_no hAm.2.2.1.1 (by omega) hi), fun _ => ⟨hin, hin, ?_⟩⟩
    rw [cl_nI (by omega), (hw1 i hi).1, (hw2 i hi).1, nI_1]
    refine ⟨fun q => ?_, fun q => ?_⟩
    · rw [enc_skip (p := fun b => decide (be b = wo b)) (by rw [decide_eq_false_iff_not]; exact fun k => q (by rw [k]))]
      exact ih
    · have e : be i = wo i := oI_inj (fun n k => by have := (hw1 i hi).2 n k; omega) (fun n k => by have := (hw2 i hi).2 n k; omega) q
      rw [enc_step (p := fun b => decide (be b = wo b)) (by omega) (by rw [decide_eq_true_eq]; exact e)]
      exact ih
theorem c_B_fairest {l : Launch} {h : Nat} {mi : TMi} {ml : TMl} {z : Nat} {a : Ln} {d : Dt} {Q : Int32 → TMi → TMl → Nat → Prop} (hA : CA mi a d) (hq : ∀ mi', Fr SC mi mi' → Q (frN (fr (grA a d) (hlA a d))) mi' ml 17) : CI l (h + 15) m_B_fairest [.ref 1] mi ml z Q := by
  refine t_B_fairest mi ml z (c_thru hA (fun m F hs => ?_))
  rw [hs.2.1]
  exact hq m F
theorem c_B_bearing {l : Launch} {h : Nat} {mi : TMi} {ml : TMl} {z : Nat} {a : Ln} {d : Dt} {x : Int32} {Q : Int32 → TMi → TMl → Nat → Prop} (hA : CA mi a d) (hq : ∀ mi' z', Fr SC mi mi' → (z' = z ∨ z' = 17) → Q (if inR a x then nI (mxl (flW a d x.toInt.toNat) (hlA a d)) else -2) mi' ml z') : CI l (h + 15) m_B_bearing [.ref 1, .int x] mi ml z Q := by
  have hR4 := hA.1.2.1
  refine t_B_bearing mi ml z _ (c_hasRiver hA.2.2.1.2.1 hR4 ⟨fun c => c_thru hA (fun m F hs => ?_), fun c => ?_⟩)
  · rw [bI_0, Bool.not_eq_false, decide_eq_true_eq] at c
    obtain ⟨ex, hr⟩ := inR_nI (a := a) c
    have hq := hq m 17 F (Or.inr rfl)
    rw [if_pos c] at hq
    generalize x.toInt.toNat = r at ex hr hq
    rw [ex]
    refine ⟨in_nI (by omega) (by decide), ?_⟩
    rw [cl_nI (by omega), hs.2.2.2.2.1 r hr]
    exact hq
  · rw [bI_0, decide_eq_false_iff_not] at c
    have hq := hq mi z (Fr.refl _ _) (Or.inl rfl)
    rw [if_neg c] at hq
    exact hq
