/-! ===== copies of lands and scenes ===== -/
theorem c_La_copy_80_18 {l : Launch} {h : Nat} {mi : TMi} {ml : TMl} {z : Nat} {a : Ln} {Q : TMi → TMl → Nat → Prop} (hl : LnC mi 18 a) (hB6 : nB a ≤ 6) (hR4 : nR a ≤ 4) (h8 : okC (mi 88)) (hq : ∀ mi', Fr [80, 81, 82, 83, 84, 85, 86, 87, 88] mi mi' → LnC mi' 80 a → Q mi' ml z) : CV l (h + 1) m_La_copyFrom [.ref 80, .ref 18] mi ml z Q := by
  obtain ⟨h0, h1, h2, h3, h4, h5, h6, h7, n, k1, k2, k3, k4⟩ := hl
  refine t_La_copyFrom_80_18 mi ml z ?_
  simp (decide := true) only [up_ne, cp_ne, k1, cl_nI (show n < 2 ^ 31 by omega)]
  refine ⟨⟨by decide, by decide, ?_, by omega, by omega⟩, ?_⟩
  · rw [i32_lt0, nI_toInt (by omega)]; omega
  refine hq _ (fun m hm => ?_) ⟨?_, ?_, ?_, fun b hb => ?_, fun b hb => ?_, fun r hr => ?_, fun r hr => ?_, ?_, n, ?_, k2, ?_, ?_⟩
  · simp only [List.mem_cons, List.mem_nil_iff, or_false, not_or] at hm
    obtain ⟨g0, g1, g2, g3, g4, g5, g6, g7, g8⟩ := hm
    rw [cp_ne _ _ _ _ _ _ g8, cp_ne _ _ _ _ _ _ g7, cp_ne _ _ _ _ _ _ g6, cp_ne _ _ _ _ _ _ g5, cp_ne _ _ _ _ _ _ g4, cp_ne _ _ _ _ _ _ g3, cp_ne _ _ _ _ _ _ g2, cp_ne _ _ _ _ _ _ g1, up_ne _ _ _ g0, up_ne _ _ _ g0, up_ne _ _ _ g0, up_ne _ _ _ g0, up_ne _ _ _ g0, up_ne _ _ _ g0]
  · simp (decide := true) only [cp_ne, up_nk, up_at]; exact h0
  · simp (decide := true) only [cp_ne, up_nk, up_at]; exact h1
  · simp (decide := true) only [cp_ne, up_nk, up_at]; exact h2
  · show cpF _ _ _ _ _ _ 82 b = _
    rw [cp_ne _ _ _ _ _ _ (by decide), cp_ne _ _ _ _ _ _ (by decide), cp_ne _ _ _ _ _ _ (by decide), cp_ne _ _ _ _ _ _ (by decide), cp_ne _ _ _ _ _ _ (by decide), cp_ne _ _ _ _ _ _ (by decide), cp_lt (by omega)]
    simp (decide := true) only [cp_ne, up_ne]
    exact h3 b hb
  · show cpF _ _ _ _ _ _ 83 b = _
    rw [cp_ne _ _ _ _ _ _ (by decide), cp_ne _ _ _ _ _ _ (by decide), cp_ne _ _ _ _ _ _ (by decide), cp_ne _ _ _ _ _ _ (by decide), cp_ne _ _ _ _ _ _ (by decide), cp_lt (by omega)]
    simp (decide := true) only [cp_ne, up_ne]
    exact h4 b hb
  · show cpF _ _ _ _ _ _ 86 r = _
    rw [cp_ne _ _ _ _ _ _ (by decide), cp_ne _ _ _ _ _ _ (by decide), cp_lt (by omega)]
    simp (decide := true) only [cp_ne, up_ne]
    exact h5 r hr
  · show cpF _ _ _ _ _ _ 87 r = _
    rw [cp_ne _ _ _ _ _ _ (by decide), cp_lt (by omega)]
    simp (decide := true) only [cp_ne, up_ne]
    exact h6 r hr
  · show okC (cpF _ _ _ _ _ _ 88)
    rw [cp_at]
    simp (decide := true) only [cp_ne, up_ne]
    intro j hj
    by_cases e : j < n
    · simp only [e, if_true]; exact h7 j hj
    · simp only [e, if_false]; exact h8 j hj
  · simp (decide := true) only [cp_ne, up_nk, up_at]
  · simp (decide := true) only [cp_ne, up_nk, up_at]
    show CLn (cpF _ _ _ _ _ _ 88) _ _ _
    refine k3.cp (fun j hj => ?_)
    rw [cp_lt hj]
    simp (decide := true) only [cp_ne, up_ne]
  · simp (decide := true) only [cp_ne, up_nk, up_at]
    show CLn (cpF _ _ _ _ _ _ 88) _ _ _
    refine k4.cp (fun j hj => ?_)
    rw [cp_lt hj]
    simp (decide := true) only [cp_ne, up_ne]
theorem c_La_copy_96_18 {l : Launch} {h : Nat} {mi : TMi} {ml : TMl} {z : Nat} {a : Ln} {Q : TMi → TMl → Nat → Prop} (hl : LnC mi 18 a) (hB6 : nB a ≤ 6) (hR4 : nR a ≤ 4) (h8 : okC (mi 104)) (hq : ∀ mi', Fr [96, 97, 98, 99, 100, 101, 102, 103, 104] mi mi' → LnC mi' 96 a → Q mi' ml z) : CV l (h + 1) m_La_copyFrom [.ref 96, .ref 18] mi ml z Q := by
  obtain ⟨h0, h1, h2, h3, h4, h5, h6, h7, n, k1, k2, k3, k4⟩ := hl
  refine t_La_copyFrom_96_18 mi ml z ?_
  simp (decide := true) only [up_ne, cp_ne, k1, cl_nI (show n < 2 ^ 31 by omega)]
  refine ⟨⟨by decide, by decide, ?_, by omega, by omega⟩, ?_⟩
  · rw [i32_lt0, nI_toInt (by omega)]; omega
  refine hq _ (fun m hm => ?_) ⟨?_, ?_, ?_, fun b hb => ?_, fun b hb => ?_, fun r hr => ?_, fun r hr => ?_, ?_, n, ?_, k2, ?_, ?_⟩
  · simp only [List.mem_cons, List.mem_nil_iff, or_false, not_or] at hm
    obtain ⟨g0, g1, g2, g3, g4, g5, g6, g7, g8⟩ := hm
    rw [cp_ne _ _ _ _ _ _ g8, cp_ne _ _ _ _ _ _ g7, cp_ne _ _ _ _ _ _ g6, cp_ne _ _ _ _ _ _ g5, cp_ne _ _ _ _ _ _ g4, cp_ne _ _ _ _ _ _ g3, cp_ne _ _ _ _ _ _ g2, cp_ne _ _ _ _ _ _ g1, up_ne _ _ _ g0, up_ne _ _ _ g0, up_ne _ _ _ g0, up_ne _ _ _ g0, up_ne _ _ _ g0, up_ne _ _ _ g0]
  · simp (decide := true) only [cp_ne, up_nk, up_at]; exact h0
  · simp (decide := true) only [cp_ne, up_nk, up_at]; exact h1
  · simp (decide := true) only [cp_ne, up_nk, up_at]; exact h2
  · show cpF _ _ _ _ _ _ 98 b = _
    rw [cp_ne _ _ _ _ _ _ (by decide), cp_ne _ _ _ _ _ _ (by decide), cp_ne _ _ _ _ _ _ (by decide), cp_ne _ _ _ _ _ _ (by decide), cp_ne _ _ _ _ _ _ (by decide), cp_ne _ _ _ _ _ _ (by decide), cp_lt (by omega)]
    simp (decide := true) only [cp_ne, up_ne]
    exact h3 b hb
  · show cpF _ _ _ _ _ _ 99 b = _
    rw [cp_ne _ _ _ _ _ _ (by decide), cp_ne _ _ _ _ _ _ (by decide), cp_ne _ _ _ _ _ _ (by decide), cp_ne _ _ _ _ _ _ (by decide), cp_ne _ _ _ _ _ _ (by decide), cp_lt (by omega)]
    simp (decide := true) only [cp_ne, up_ne]
    exact h4 b hb
  · show cpF _ _ _ _ _ _ 102 r = _
    rw [cp_ne _ _ _ _ _ _ (by decide), cp_ne _ _ _ _ _ _ (by decide), cp_lt (by omega)]
    simp (decide := true) only [cp_ne, up_ne]
    exact h5 r hr
  · show cpF _ _ _ _ _ _ 103 r = _
    rw [cp_ne _ _ _ _ _ _ (by decide), cp_lt (by omega)]
    simp (decide := true) only [cp_ne, up_ne]
    exact h6 r hr
  · show okC (cpF _ _ _ _ _ _ 104)
    rw [cp_at]
    simp (decide := true) only [cp_ne, up_ne]
    intro j hj
    by_cases e : j < n
    · simp only [e, if_true]; exact h7 j hj
    · simp only [e, if_false]; exact h8 j hj
  · simp (decide := true) only [cp_ne, up_nk, up_at]
  · simp (decide := true) only [cp_ne, up_nk, up_at]
    show CLn (cpF _ _ _ _ _ _ 104) _ _ _
    refine k3.cp (fun j hj => ?_)
    rw [cp_lt hj]
    simp (decide := true) only [cp_ne, up_ne]
  · simp (decide := true) only [cp_ne, up_nk, up_at]
    show CLn (cpF _ _ _ _ _ _ 104) _ _ _
    refine k4.cp (fun j hj => ?_)
    rw [cp_lt hj]
    simp (decide := true) only [cp_ne, up_ne]
theorem c_La_copy_18_80 {l : Launch} {h : Nat} {mi : TMi} {ml : TMl} {z : Nat} {a : Ln} {Q : TMi → TMl → Nat → Prop} (hl : LnC mi 80 a) (hB6 : nB a ≤ 6) (hR4 : nR a ≤ 4) (h8 : okC (mi 26)) (hq : ∀ mi', Fr [18, 19, 20, 21, 22, 23, 24, 25, 26] mi mi' → LnC mi' 18 a → Q mi' ml z) : CV l (h + 1) m_La_copyFrom [.ref 18, .ref 80] mi ml z Q := by
  obtain ⟨h0, h1, h2, h3, h4, h5, h6, h7, n, k1, k2, k3, k4⟩ := hl
  refine t_La_copyFrom_18_80 mi ml z ?_
  simp (decide := true) only [up_ne, cp_ne, k1, cl_nI (show n < 2 ^ 31 by omega)]
  refine ⟨⟨by decide, by decide, ?_, by omega, by omega⟩, ?_⟩
  · rw [i32_lt0, nI_toInt (by omega)]; omega
  refine hq _ (fun m hm => ?_) ⟨?_, ?_, ?_, fun b hb => ?_, fun b hb => ?_, fun r hr => ?_, fun r hr => ?_, ?_, n, ?_, k2, ?_, ?_⟩
  · simp only [List.mem_cons, List.mem_nil_iff, or_false, not_or] at hm
    obtain ⟨g0, g1, g2, g3, g4, g5, g6, g7, g8⟩ := hm
    rw [cp_ne _ _ _ _ _ _ g8, cp_ne _ _ _ _ _ _ g7, cp_ne _ _ _ _ _ _ g6, cp_ne _ _ _ _ _ _ g5, cp_ne _ _ _ _ _ _ g4, cp_ne _ _ _ _ _ _ g3, cp_ne _ _ _ _ _ _ g2, cp_ne _ _ _ _ _ _ g1, up_ne _ _ _ g0, up_ne _ _ _ g0, up_ne _ _ _ g0, up_ne _ _ _ g0, up_ne _ _ _ g0, up_ne _ _ _ g0]
  · simp (decide := true) only [cp_ne, up_nk, up_at]; exact h0
  · simp (decide := true) only [cp_ne, up_nk, up_at]; exact h1
  · simp (decide := true) only [cp_ne, up_nk, up_at]; exact h2
  · show cpF _ _ _ _ _ _ 20 b = _
    rw [cp_ne _ _ _ _ _ _ (by decide), cp_ne _ _ _ _ _ _ (by decide), cp_ne _ _ _ _ _ _ (by decide), cp_ne _ _ _ _ _ _ (by decide), cp_ne _ _ _ _ _ _ (by decide), cp_ne _ _ _ _ _ _ (by decide), cp_lt (by omega)]
    simp (decide := true) only [cp_ne, up_ne]
    exact h3 b hb
  · show cpF _ _ _ _ _ _ 21 b = _
    rw [cp_ne _ _ _ _ _ _ (by decide), cp_ne _ _ _ _ _ _ (by decide), cp_ne _ _ _ _ _ _ (by decide), cp_ne _ _ _ _ _ _ (by decide), cp_ne _ _ _ _ _ _ (by decide), cp_lt (by omega)]
    simp (decide := true) only [cp_ne, up_ne]
    exact h4 b hb
  · show cpF _ _ _ _ _ _ 24 r = _
    rw [cp_ne _ _ _ _ _ _ (by decide), cp_ne _ _ _ _ _ _ (by decide), cp_lt (by omega)]
    simp (decide := true) only [cp_ne, up_ne]
    exact h5 r hr
  · show cpF _ _ _ _ _ _ 25 r = _
    rw [cp_ne _ _ _ _ _ _ (by decide), cp_lt (by omega)]
    simp (decide := true) only [cp_ne, up_ne]
    exact h6 r hr
  · show okC (cpF _ _ _ _ _ _ 26)
    rw [cp_at]
    simp (decide := true) only [cp_ne, up_ne]
    intro j hj
    by_cases e : j < n
    · simp only [e, if_true]; exact h7 j hj
    · simp only [e, if_false]; exact h8 j hj
  · simp (decide := true) only [cp_ne, up_nk, up_at]
  · simp (decide := true) only [cp_ne, up_nk, up_at]
    show CLn (cpF _ _ _ _ _ _ 26) _ _ _
    refine k3.cp (fun j hj => ?_)
    rw [cp_lt hj]
    simp (decide := true) only [cp_ne, up_ne]
  · simp (decide := true) only [cp_ne, up_nk, up_at]
    show CLn (cpF _ _ _ _ _ _ 26) _ _ _
    refine k4.cp (fun j hj => ?_)
    rw [cp_lt hj]
    simp (decide := true) only [cp_ne, up_ne]
theorem c_La_copy_18_96 {l : Launch} {h : Nat} {mi : TMi} {ml : TMl} {z : Nat} {a : Ln} {Q : TMi → TMl → Nat → Prop} (hl : LnC mi 96 a) (hB6 : nB a ≤ 6) (hR4 : nR a ≤ 4) (h8 : okC (mi 26)) (hq : ∀ mi', Fr [18, 19, 20, 21, 22, 23, 24, 25, 26] mi mi' → LnC mi' 18 a → Q mi' ml z) : CV l (h + 1) m_La_copyFrom [.ref 18, .ref 96] mi ml z Q := by
  obtain ⟨h0, h1, h2, h3, h4, h5, h6, h7, n, k1, k2, k3, k4⟩ := hl
  refine t_La_copyFrom_18_96 mi ml z ?_
  simp (decide := true) only [up_ne, cp_ne, k1, cl_nI (show n < 2 ^ 31 by omega)]
  refine ⟨⟨by decide, by decide, ?_, by omega, by omega⟩, ?_⟩
  · rw [i32_lt0, nI_toInt (by omega)]; omega
  refine hq _ (fun m hm => ?_) ⟨?_, ?_, ?_, fun b hb => ?_, fun b hb => ?_, fun r hr => ?_, fun r hr => ?_, ?_, n, ?_, k2, ?_, ?_⟩
  · simp only [List.mem_cons, List.mem_nil_iff, or_false, not_or] at hm
    obtain ⟨g0, g1, g2, g3, g4, g5, g6, g7, g8⟩ := hm
    rw [cp_ne _ _ _ _ _ _ g8, cp_ne _ _ _ _ _ _ g7, cp_ne _ _ _ _ _ _ g6, cp_ne _ _ _ _ _ _ g5, cp_ne _ _ _ _ _ _ g4, cp_ne _ _ _ _ _ _ g3, cp_ne _ _ _ _ _ _ g2, cp_ne _ _ _ _ _ _ g1, up_ne _ _ _ g0, up_ne _ _ _ g0, up_ne _ _ _ g0, up_ne _ _ _ g0, up_ne _ _ _ g0, up_ne _ _ _ g0]
  · simp (decide := true) only [cp_ne, up_nk, up_at]; exact h0
  · simp (decide := true) only [cp_ne, up_nk, up_at]; exact h1
  · simp (decide := true) only [cp_ne, up_nk, up_at]; exact h2
  · show cpF _ _ _ _ _ _ 20 b = _
    rw [cp_ne _ _ _ _ _ _ (by decide), cp_ne _ _ _ _ _ _ (by decide), cp_ne _ _ _ _ _ _ (by decide), cp_ne _ _ _ _ _ _ (by decide), cp_ne _ _ _ _ _ _ (by decide), cp_ne _ _ _ _ _ _ (by decide), cp_lt (by omega)]
    simp (decide := true) only [cp_ne, up_ne]
    exact h3 b hb
  · show cpF _ _ _ _ _ _ 21 b = _
    rw [cp_ne _ _ _ _ _ _ (by decide), cp_ne _ _ _ _ _ _ (by decide), cp_ne _ _ _ _ _ _ (by decide), cp_ne _ _ _ _ _ _ (by decide), cp_ne _ _ _ _ _ _ (by decide), cp_lt (by omega)]
    simp (decide := true) only [cp_ne, up_ne]
    exact h4 b hb
  · show cpF _ _ _ _ _ _ 24 r = _
    rw [cp_ne _ _ _ _ _ _ (by decide), cp_ne _ _ _ _ _ _ (by decide), cp_lt (by omega)]
    simp (decide := true) only [cp_ne, up_ne]
    exact h5 r hr
  · show cpF _ _ _ _ _ _ 25 r = _
    rw [cp_ne _ _ _ _ _ _ (by decide), cp_lt (by omega)]
    simp (decide := true) only [cp_ne, up_ne]
    exact h6 r hr
  · show okC (cpF _ _ _ _ _ _ 26)
    rw [cp_at]
    simp (decide := true) only [cp_ne, up_ne]
    intro j hj
    by_cases e : j < n
    · simp only [e, if_true]; exact h7 j hj
    · simp only [e, if_false]; exact h8 j hj
  · simp (decide := true) only [cp_ne, up_nk, up_at]
  · simp (decide := true) only [cp_ne, up_nk, up_at]
    show CLn (cpF _ _ _ _ _ _ 26) _ _ _
    refine k3.cp (fun j hj => ?_)
    rw [cp_lt hj]
    simp (decide := true) only [cp_ne, up_ne]
  · simp (decide := true) only [cp_ne, up_nk, up_at]
    show CLn (cpF _ _ _ _ _ _ 26) _ _ _
    refine k4.cp (fun j hj => ?_)
    rw [cp_lt hj]
    simp (decide := true) only [cp_ne, up_ne]
theorem c_La_copy_18_3 {l : Launch} {h : Nat} {mi : TMi} {ml : TMl} {z : Nat} {a : Ln} {Q : TMi → TMl → Nat → Prop} (hl : LnC mi 3 a) (hB6 : nB a ≤ 6) (hR4 : nR a ≤ 4) (h8 : okC (mi 26)) (hq : ∀ mi', Fr [18, 19, 20, 21, 22, 23, 24, 25, 26] mi mi' → LnC mi' 18 a → Q mi' ml z) : CV l (h + 1) m_La_copyFrom [.ref 18, .ref 3] mi ml z Q := by
  obtain ⟨h0, h1, h2, h3, h4, h5, h6, h7, n, k1, k2, k3, k4⟩ := hl
  refine t_La_copyFrom_18_3 mi ml z ?_
  simp (decide := true) only [up_ne, cp_ne, k1, cl_nI (show n < 2 ^ 31 by omega)]
  refine ⟨⟨by decide, by decide, ?_, by omega, by omega⟩, ?_⟩
  · rw [i32_lt0, nI_toInt (by omega)]; omega
  refine hq _ (fun m hm => ?_) ⟨?_, ?_, ?_, fun b hb => ?_, fun b hb => ?_, fun r hr => ?_, fun r hr => ?_, ?_, n, ?_, k2, ?_, ?_⟩
  · simp only [List.mem_cons, List.mem_nil_iff, or_false, not_or] at hm
    obtain ⟨g0, g1, g2, g3, g4, g5, g6, g7, g8⟩ := hm
    rw [cp_ne _ _ _ _ _ _ g8, cp_ne _ _ _ _ _ _ g7, cp_ne _ _ _ _ _ _ g6, cp_ne _ _ _ _ _ _ g5, cp_ne _ _ _ _ _ _ g4, cp_ne _ _ _ _ _ _ g3, cp_ne _ _ _ _ _ _ g2, cp_ne _ _ _ _ _ _ g1, up_ne _ _ _ g0, up_ne _ _ _ g0, up_ne _ _ _ g0, up_ne _ _ _ g0, up_ne _ _ _ g0, up_ne _ _ _ g0]
  · simp (decide := true) only [cp_ne, up_nk, up_at]; exact h0
  · simp (decide := true) only [cp_ne, up_nk, up_at]; exact h1
  · simp (decide := true) only [cp_ne, up_nk, up_at]; exact h2
  · show cpF _ _ _ _ _ _ 20 b = _
    rw [cp_ne _ _ _ _ _ _ (by decide), cp_ne _ _ _ _ _ _ (by decide), cp_ne _ _ _ _ _ _ (by decide), cp_ne _ _ _ _ _ _ (by decide), cp_ne _ _ _ _ _ _ (by decide), cp_ne _ _ _ _ _ _ (by decide), cp_lt (by omega)]
    simp (decide := true) only [cp_ne, up_ne]
    exact h3 b hb
  · show cpF _ _ _ _ _ _ 21 b = _
    rw [cp_ne _ _ _ _ _ _ (by decide), cp_ne _ _ _ _ _ _ (by decide), cp_ne _ _ _ _ _ _ (by decide), cp_ne _ _ _ _ _ _ (by decide), cp_ne _ _ _ _ _ _ (by decide), cp_lt (by omega)]
    simp (decide := true) only [cp_ne, up_ne]
    exact h4 b hb
  · show cpF _ _ _ _ _ _ 24 r = _
    rw [cp_ne _ _ _ _ _ _ (by decide), cp_ne _ _ _ _ _ _ (by decide), cp_lt (by omega)]
    simp (decide := true) only [cp_ne, up_ne]
    exact h5 r hr
  · show cpF _ _ _ _ _ _ 25 r = _
    rw [cp_ne _ _ _ _ _ _ (by decide), cp_lt (by omega)]
    simp (decide := true) only [cp_ne, up_ne]
    exact h6 r hr
  · show okC (cpF _ _ _ _ _ _ 26)
    rw [cp_at]
    simp (decide := true) only [cp_ne, up_ne]
    intro j hj
    by_cases e : j < n
    · simp only [e, if_true]; exact h7 j hj
    · simp only [e, if_false]; exact h8 j hj
  · simp (decide := true) only [cp_ne, up_nk, up_at]
  · simp (decide := true) only [cp_ne, up_nk, up_at]
    show CLn (cpF _ _ _ _ _ _ 26) _ _ _
    refine k3.cp (fun j hj => ?_)
    rw [cp_lt hj]
    simp (decide := true) only [cp_ne, up_ne]
  · simp (decide := true) only [cp_ne, up_nk, up_at]
    show CLn (cpF _ _ _ _ _ _ 26) _ _ _
    refine k4.cp (fun j hj => ?_)
    rw [cp_lt hj]
    simp (decide := true) only [cp_ne, up_ne]
theorem c_Sc_copy_79_17 {l : Launch} {h : Nat} {mi : TMi} {ml : TMl} {z : Nat} {d : Dt} {B R : Nat} {L T : Nat → Nat → Int} {Q : TMi → TMl → Nat → Prop} (hB : B ≤ 6) (hR : R ≤ 4) (hc : Cs (mi 27) d) (hs : SLp mi 28 29 30 31 32 B R allP L T) (hq : ∀ mi', Fr [89, 90, 91, 92, 93, 94] mi mi' → Cs (mi' 89) d → SLp mi' 90 91 92 93 94 B R allP L T → Q mi' ml z) : CV l (h + 1) m_Sc_copyFrom [.ref 79, .ref 17] mi ml z Q := by
  refine t_Sc_copyFrom_79_17 mi ml z (hq _ ?_ ?_ ?_)
  · exact ((((((Fr_cp _ _ _ _ _ _).weak (by simp)).step ((Fr_cp _ _ _ _ _ _).weak (by simp))).step ((Fr_cp _ _ _ _ _ _).weak (by simp))).step ((Fr_cp _ _ _ _ _ _).weak (by simp))).step ((Fr_cp _ _ _ _ _ _).weak (by simp))).step ((Fr_cp _ _ _ _ _ _).weak (by simp))
  · refine hc.ext (fun k hk => ?_)
    rw [cp_ne _ _ _ _ _ _ (by decide), cp_ne _ _ _ _ _ _ (by decide), cp_ne _ _ _ _ _ _ (by decide), cp_ne _ _ _ _ _ _ (by decide), cp_ne _ _ _ _ _ _ (by decide), cp_lt hk]
  · refine hs.copy hB hR (fun k hk => ?_) (fun k hk => ?_) (fun k hk => ?_) (fun k hk => ?_) (fun k hk => ?_)
    · rw [cp_ne _ _ _ _ _ _ (by decide), cp_ne _ _ _ _ _ _ (by decide), cp_ne _ _ _ _ _ _ (by decide), cp_ne _ _ _ _ _ _ (by decide), cp_lt hk, cp_ne _ _ _ _ _ _ (by decide)]
    · rw [cp_ne _ _ _ _ _ _ (by decide), cp_ne _ _ _ _ _ _ (by decide), cp_ne _ _ _ _ _ _ (by decide), cp_lt hk, cp_ne _ _ _ _ _ _ (by decide), cp_ne _ _ _ _ _ _ (by decide)]
    · rw [cp_ne _ _ _ _ _ _ (by decide), cp_ne _ _ _ _ _ _ (by decide), cp_lt hk, cp_ne _ _ _ _ _ _ (by decide), cp_ne _ _ _ _ _ _ (by decide), cp_ne _ _ _ _ _ _ (by decide)]
    · rw [cp_ne _ _ _ _ _ _ (by decide), cp_lt hk, cp_ne _ _ _ _ _ _ (by decide), cp_ne _ _ _ _ _ _ (by decide), cp_ne _ _ _ _ _ _ (by decide), cp_ne _ _ _ _ _ _ (by decide)]
    · rw [cp_lt hk, cp_ne _ _ _ _ _ _ (by decide), cp_ne _ _ _ _ _ _ (by decide), cp_ne _ _ _ _ _ _ (by decide), cp_ne _ _ _ _ _ _ (by decide), cp_ne _ _ _ _ _ _ (by decide)]
theorem c_Sc_copy_95_17 {l : Launch} {h : Nat} {mi : TMi} {ml : TMl} {z : Nat} {d : Dt} {B R : Nat} {L T : Nat → Nat → Int} {Q : TMi → TMl → Nat → Prop} (hB : B ≤ 6) (hR : R ≤ 4) (hc : Cs (mi 27) d) (hs : SLp mi 28 29 30 31 32 B R allP L T) (hq : ∀ mi', Fr [105, 106, 107, 108, 109, 110] mi mi' → Cs (mi' 105) d → SLp mi' 106 107 108 109 110 B R allP L T → Q mi' ml z) : CV l (h + 1) m_Sc_copyFrom [.ref 95, .ref 17] mi ml z Q := by
  refine t_Sc_copyFrom_95_17 mi ml z (hq _ ?_ ?_ ?_)
  · exact ((((((Fr_cp _ _ _ _ _ _).weak (by simp)).step ((Fr_cp _ _ _ _ _ _).weak (by simp))).step ((Fr_cp _ _ _ _ _ _).weak (by simp))).step ((Fr_cp _ _ _ _ _ _).weak (by simp))).step ((Fr_cp _ _ _ _ _ _).weak (by simp))).step ((Fr_cp _ _ _ _ _ _).weak (by simp))
  · refine hc.ext (fun k hk => ?_)
    rw [cp_ne _ _ _ _ _ _ (by decide), cp_ne _ _ _ _ _ _ (by decide), cp_ne _ _ _ _ _ _ (by decide), cp_ne _ _ _ _ _ _ (by decide), cp_ne _ _ _ _ _ _ (by decide), cp_lt hk]
  · refine hs.copy hB hR (fun k hk => ?_) (fun k hk => ?_) (fun k hk => ?_) (fun k hk => ?_) (fun k hk => ?_)
    · rw [cp_ne _ _ _ _ _ _ (by decide), cp_ne _ _ _ _ _ _ (by decide), cp_ne _ _ _ _ _ _ (by decide), cp_ne _ _ _ _ _ _ (by decide), cp_lt hk, cp_ne _ _ _ _ _ _ (by decide)]
    · rw [cp_ne _ _ _ _ _ _ (by decide), cp_ne _ _ _ _ _ _ (by decide), cp_ne _ _ _ _ _ _ (by decide), cp_lt hk, cp_ne _ _ _ _ _ _ (by decide), cp_ne _ _ _ _ _ _ (by decide)]
    · rw [cp_ne _ _ _ _ _ _ (by decide), cp_ne _ _ _ _ _ _ (by decide), cp_lt hk, cp_ne _ _ _ _ _ _ (by decide), cp_ne _ _ _ _ _ _ (by decide), cp_ne _ _ _ _ _ _ (by decide)]
    · rw [cp_ne _ _ _ _ _ _ (by decide), cp_lt hk, cp_ne _ _ _ _ _ _ (by decide), cp_ne _ _ _ _ _ _ (by decide), cp_ne _ _ _ _ _ _ (by decide), cp_ne _ _ _ _ _ _ (by decide)]
    · rw [cp_lt hk, cp_ne _ _ _ _ _ _ (by decide), cp_ne _ _ _ _ _ _ (by decide), cp_ne _ _ _ _ _ _ (by decide), cp_ne _ _ _ _ _ _ (by decide), cp_ne _ _ _ _ _ _ (by decide)]
theorem c_Sc_copy_17_79 {l : Launch} {h : Nat} {mi : TMi} {ml : TMl} {z : Nat} {d : Dt} {B R : Nat} {L T : Nat → Nat → Int} {Q : TMi → TMl → Nat → Prop} (hB : B ≤ 6) (hR : R ≤ 4) (hc : Cs (mi 89) d) (hs : SLp mi 90 91 92 93 94 B R allP L T) (hq : ∀ mi', Fr [27, 28, 29, 30, 31, 32] mi mi' → Cs (mi' 27) d → SLp mi' 28 29 30 31 32 B R allP L T → Q mi' ml z) : CV l (h + 1) m_Sc_copyFrom [.ref 17, .ref 79] mi ml z Q := by
  refine t_Sc_copyFrom_17_79 mi ml z (hq _ ?_ ?_ ?_)
  · exact ((((((Fr_cp _ _ _ _ _ _).weak (by simp)).step ((Fr_cp _ _ _ _ _ _).weak (by simp))).step ((Fr_cp _ _ _ _ _ _).weak (by simp))).step ((Fr_cp _ _ _ _ _ _).weak (by simp))).step ((Fr_cp _ _ _ _ _ _).weak (by simp))).step ((Fr_cp _ _ _ _ _ _).weak (by simp))
  · refine hc.ext (fun k hk => ?_)
    rw [cp_ne _ _ _ _ _ _ (by decide), cp_ne _ _ _ _ _ _ (by decide), cp_ne _ _ _ _ _ _ (by decide), cp_ne _ _ _ _ _ _ (by decide), cp_ne _ _ _ _ _ _ (by decide), cp_lt hk]
  · refine hs.copy hB hR (fun k hk => ?_) (fun k hk => ?_) (fun k hk => ?_) (fun k hk => ?_) (fun k hk => ?_)
    · rw [cp_ne _ _ _ _ _ _ (by decide), cp_ne _ _ _ _ _ _ (by decide), cp_ne _ _ _ _ _ _ (by decide), cp_ne _ _ _ _ _ _ (by decide), cp_lt hk, cp_ne _ _ _ _ _ _ (by decide)]
    · rw [cp_ne _ _ _ _ _ _ (by decide), cp_ne _ _ _ _ _ _ (by decide), cp_ne _ _ _ _ _ _ (by decide), cp_lt hk, cp_ne _ _ _ _ _ _ (by decide), cp_ne _ _ _ _ _ _ (by decide)]
    · rw [cp_ne _ _ _ _ _ _ (by decide), cp_ne _ _ _ _ _ _ (by decide), cp_lt hk, cp_ne _ _ _ _ _ _ (by decide), cp_ne _ _ _ _ _ _ (by decide), cp_ne _ _ _ _ _ _ (by decide)]
    · rw [cp_ne _ _ _ _ _ _ (by decide), cp_lt hk, cp_ne _ _ _ _ _ _ (by decide), cp_ne _ _ _ _ _ _ (by decide), cp_ne _ _ _ _ _ _ (by decide), cp_ne _ _ _ _ _ _ (by decide)]
    · rw [cp_lt hk, cp_ne _ _ _ _ _ _ (by decide), cp_ne _ _ _ _ _ _ (by decide), cp_ne _ _ _ _ _ _ (by decide), cp_ne _ _ _ _ _ _ (by decide), cp_ne _ _ _ _ _ _ (by decide)]
theorem c_Sc_copy_17_95 {l : Launch} {h : Nat} {mi : TMi} {ml : TMl} {z : Nat} {d : Dt} {B R : Nat} {L T : Nat → Nat → Int} {Q : TMi → TMl → Nat → Prop} (hB : B ≤ 6) (hR : R ≤ 4) (hc : Cs (mi 105) d) (hs : SLp mi 106 107 108 109 110 B R allP L T) (hq : ∀ mi', Fr [27, 28, 29, 30, 31, 32] mi mi' → Cs (mi' 27) d → SLp mi' 28 29 30 31 32 B R allP L T → Q mi' ml z) : CV l (h + 1) m_Sc_copyFrom [.ref 17, .ref 95] mi ml z Q := by
  refine t_Sc_copyFrom_17_95 mi ml z (hq _ ?_ ?_ ?_)
  · exact ((((((Fr_cp _ _ _ _ _ _).weak (by simp)).step ((Fr_cp _ _ _ _ _ _).weak (by simp))).step ((Fr_cp _ _ _ _ _ _).weak (by simp))).step ((Fr_cp _ _ _ _ _ _).weak (by simp))).step ((Fr_cp _ _ _ _ _ _).weak (by simp))).step ((Fr_cp _ _ _ _ _ _).weak (by simp))
  · refine hc.ext (fun k hk => ?_)
    rw [cp_ne _ _ _ _ _ _ (by decide), cp_ne _ _ _ _ _ _ (by decide), cp_ne _ _ _ _ _ _ (by decide), cp_ne _ _ _ _ _ _ (by decide), cp_ne _ _ _ _ _ _ (by decide), cp_lt hk]
  · refine hs.copy hB hR (fun k hk => ?_) (fun k hk => ?_) (fun k hk => ?_) (fun k hk => ?_) (fun k hk => ?_)
    · rw [cp_ne _ _ _ _ _ _ (by decide), cp_ne _ _ _ _ _ _ (by decide), cp_ne _ _ _ _ _ _ (by decide), cp_ne _ _ _ _ _ _ (by decide), cp_lt hk, cp_ne _ _ _ _ _ _ (by decide)]
    · rw [cp_ne _ _ _ _ _ _ (by decide), cp_ne _ _ _ _ _ _ (by decide), cp_ne _ _ _ _ _ _ (by decide), cp_lt hk, cp_ne _ _ _ _ _ _ (by decide), cp_ne _ _ _ _ _ _ (by decide)]
    · rw [cp_ne _ _ _ _ _ _ (by decide), cp_ne _ _ _ _ _ _ (by decide), cp_lt hk, cp_ne _ _ _ _ _ _ (by decide), cp_ne _ _ _ _ _ _ (by decide), cp_ne _ _ _ _ _ _ (by decide)]
    · rw [cp_ne _ _ _ _ _ _ (by decide), cp_lt hk, cp_ne _ _ _ _ _ _ (by decide), cp_ne _ _ _ _ _ _ (by decide), cp_ne _ _ _ _ _ _ (by decide), cp_ne _ _ _ _ _ _ (by decide)]
    · rw [cp_lt hk, cp_ne _ _ _ _ _ _ (by decide), cp_ne _ _ _ _ _ _ (by decide), cp_ne _ _ _ _ _ _ (by decide), cp_ne _ _ _ _ _ _ (by decide), cp_ne _ _ _ _ _ _ (by decide)]
