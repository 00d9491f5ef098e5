/-! ===== where a reader stands: the kind of the token, its value, its place, its end, the fault, its place ===== -/
abbrev PS : Type := Nat × Nat × Nat × Nat × Nat × Nat
def zK (s : PS) : Nat := s.1
def zV (s : PS) : Nat := s.2.1
def zQ (s : PS) : Nat := s.2.2.1
def zE (s : PS) : Nat := s.2.2.2.1
def zF (s : PS) : Nat := s.2.2.2.2.1
def zX (s : PS) : Nat := s.2.2.2.2.2
abbrev zSees (k : Nat) (s : PS) : Prop := zF s = 0 ∧ zK s = k
noncomputable def zTok (tp : Nat → Nat) (n p x : Nat) : PS := (tkK tp n (tq tp n p), tkV tp n (tq tp n p), tq tp n p, tkE tp n (tq tp n p), 0, x)
noncomputable def zAdv (tp : Nat → Nat) (n : Nat) (s : PS) : PS := if zF s = 0 then zTok tp n (zE s) (zX s) else s
def zRf (w : Nat) (s : PS) : PS := if zF s = 0 then (zK s, zV s, zQ s, zE s, if zK s = 23 then 1 else w, zQ s) else s
noncomputable def zXp (tp : Nat → Nat) (n k : Nat) (s : PS) : PS := if zSees k s then zAdv tp n s else zRf 2 s
noncomputable def zNum (tp : Nat → Nat) (n lim : Nat) (s : PS) : PS × Nat := if zSees 21 s then (if zV s < lim then (zAdv tp n s, zV s) else (zRf 3 s, 0)) else (zRf 2 s, 0)
def okP (n : Nat) (s : PS) : Prop := zE s ≤ n ∧ zQ s ≤ zE s ∧ zK s < 94 ∧ (zK s = 22 ↔ n ≤ zQ s) ∧ (¬ zK s = 22 → zQ s < zE s) ∧ zV s < 1000 ∧ zF s ≤ 4 ∧ zX s ≤ n
theorem zTok_ok {tp : Nat → Nat} {n p x : Nat} (hb : ∀ j, j < n → tp j < 256) (hp : p ≤ n) (hx : x ≤ n) : okP n (zTok tp n p x) := by
  obtain ⟨h1, h2⟩ := tq_le (tp := tp) hp
  obtain ⟨h3, h4⟩ := tkE_le (tp := tp) h2
  obtain ⟨h5, h6⟩ := tkK_lt (q := tq tp n p) hb
  refine ⟨h3, ?_, h5, h6, fun k => h4 (by have : ¬ n ≤ tq tp n p := fun q => k (h6.mpr q); omega), tkV_lt _ _ _, Nat.zero_le _, hx⟩
  show tq tp n p ≤ tkE tp n (tq tp n p)
  by_cases c : tq tp n p < n
  · exact Nat.le_of_lt (h4 c)
  · unfold tkE; rw [if_pos (by omega)]; exact Nat.le_refl _
theorem zAdv_ok {tp : Nat → Nat} {n : Nat} {s : PS} (hb : ∀ j, j < n → tp j < 256) (h : okP n s) : okP n (zAdv tp n s) := by
  unfold zAdv
  split
  · exact zTok_ok hb h.1 h.2.2.2.2.2.2.2
  · exact h
theorem zAdv_0 {tp : Nat → Nat} {n : Nat} {s : PS} : zF (zAdv tp n s) = 0 ↔ zF s = 0 := by
  unfold zAdv
  split
  · rename_i c; exact ⟨fun _ => c, fun _ => rfl⟩
  · exact Iff.rfl
theorem zAdv_Q {tp : Nat → Nat} {n : Nat} {s : PS} (h : okP n s) : zQ s ≤ zQ (zAdv tp n s) := by
  unfold zAdv
  split
  · have h1 := (tq_le (tp := tp) h.1).1
    exact Nat.le_trans h.2.1 h1
  · exact Nat.le_refl _
theorem zAdv_lt {tp : Nat → Nat} {n : Nat} {s : PS} (h : okP n s) (h0 : zF s = 0) (hk : ¬ zK s = 22) : zQ s < zQ (zAdv tp n s) := by
  unfold zAdv
  rw [if_pos h0]
  exact Nat.lt_of_lt_of_le (h.2.2.2.2.1 hk) (tq_le (tp := tp) h.1).1
theorem zRf_ok {n w : Nat} {s : PS} (hw : w ≤ 4) (h : okP n s) : okP n (zRf w s) := by
  unfold zRf
  split
  · refine ⟨h.1, h.2.1, h.2.2.1, h.2.2.2.1, h.2.2.2.2.1, h.2.2.2.2.2.1, ?_, Nat.le_trans h.2.1 h.1⟩
    show (if zK s = 23 then 1 else w) ≤ 4
    split <;> omega
  · exact h
theorem zRf_n {w : Nat} {s : PS} (hw : 0 < w) : ¬ zF (zRf w s) = 0 := by
  unfold zRf
  split
  · show ¬ (if zK s = 23 then 1 else w) = 0
    split <;> omega
  · assumption
theorem zRf_Q {w : Nat} {s : PS} : zQ (zRf w s) = zQ s := by
  unfold zRf
  split <;> rfl
theorem zXp_ok {tp : Nat → Nat} {n k : Nat} {s : PS} (hb : ∀ j, j < n → tp j < 256) (h : okP n s) : okP n (zXp tp n k s) := by
  unfold zXp
  split
  · exact zAdv_ok hb h
  · exact zRf_ok (by decide) h
theorem zXp_0 {tp : Nat → Nat} {n k : Nat} {s : PS} (h : zF (zXp tp n k s) = 0) : zSees k s := by
  unfold zXp at h
  by_cases c : zSees k s
  · exact c
  · rw [if_neg c] at h
    exact absurd h (zRf_n (by decide))
theorem zXp_Q {tp : Nat → Nat} {n k : Nat} {s : PS} (h : okP n s) : zQ s ≤ zQ (zXp tp n k s) ∧ (¬ k = 22 → zF (zXp tp n k s) = 0 → zQ s < zQ (zXp tp n k s)) := by
  unfold zXp
  by_cases c : zSees k s
  · rw [if_pos c]; exact ⟨zAdv_Q h, fun h2 _ => zAdv_lt h c.1 (by rw [c.2]; exact h2)⟩
  · rw [if_neg c]; exact ⟨by rw [zRf_Q]; exact Nat.le_refl _, fun _ h0 => absurd h0 (zRf_n (by decide))⟩
theorem zNum_ok {tp : Nat → Nat} {n k : Nat} {s : PS} (hb : ∀ j, j < n → tp j < 256) (h : okP n s) : okP n (zNum tp n k s).1 := by
  unfold zNum
  split
  · split
    · exact zAdv_ok hb h
    · exact zRf_ok (by decide) h
  · exact zRf_ok (by decide) h
theorem zNum_Q {tp : Nat → Nat} {n k : Nat} {s : PS} (h : okP n s) : zQ s ≤ zQ (zNum tp n k s).1 := by
  unfold zNum
  split
  · split
    · exact zAdv_Q h
    · rw [zRf_Q]; exact Nat.le_refl _
  · rw [zRf_Q]; exact Nat.le_refl _
theorem zNum_0 {tp : Nat → Nat} {n k : Nat} {s : PS} (h : zF (zNum tp n k s).1 = 0) : zSees 21 s ∧ zV s < k ∧ zNum tp n k s = (zAdv tp n s, zV s) := by
  unfold zNum at h ⊢
  by_cases c : zSees 21 s
  · rw [if_pos c] at h ⊢
    by_cases c2 : zV s < k
    · rw [if_pos c2]; exact ⟨c, c2, rfl⟩
    · rw [if_neg c2] at h; exact absurd h (zRf_n (by decide))
  · rw [if_neg c] at h; exact absurd h (zRf_n (by decide))
/-! ===== of the class ===== -/
def CP (mi : TMi) (tp : Nat → Nat) (n : Nat) (s : PS) : Prop := TkC mi tp n ∧ okP n s ∧ mi 12 2 = nI (zE s) ∧ mi 12 3 = nI (zK s) ∧ mi 12 4 = nI (zQ s) ∧ (zK s = 21 → mi 12 5 = nI (zV s)) ∧ mi 12 6 = nI (zF s) ∧ mi 12 7 = (if zF s = 0 then -1 else nI (zX s))
theorem CP.fr {mi mi' : TMi} {tp : Nat → Nat} {n : Nat} {s : PS} (h : CP mi tp n s) (e1 : mi' 12 = mi 12) (e2 : mi' 2 = mi 2) : CP mi' tp n s := by
  unfold CP TkC at h ⊢
  rw [e1, e2]
  exact h
theorem TkC.b {mi : TMi} {tp : Nat → Nat} {n : Nat} (h : TkC mi tp n) : ∀ j, j < n → tp j < 256 := fun j hj => (h.2.2 j hj).2
theorem c_tokC {l : Launch} {h : Nat} {mi : TMi} {ml : TMl} {z p x n : Nat} {tp : Nat → Nat} {Q : TMi → TMl → Nat → Prop} (hT : TkC mi tp n) (h2 : mi 12 2 = nI p) (hp : p ≤ n) (hx : x ≤ n) (h6 : mi 12 6 = 0) (h7 : mi 12 7 = -1) (hq : ∀ mi', Fr [12] mi mi' → CP mi' tp n (zTok tp n p x) → Q mi' ml z) : CV l (h + 6) m_To_advance [.ref 12] mi ml z Q := by
  refine t_To_advance mi ml z ⟨fun _ => ?_, fun c => absurd h6 c⟩
  refine c_adv8 (h := h) hT h2 hp (fun mi' F1 F2 F3 F4 F5 F6 => hq mi' (fun a ha => F1 a (by simpa using ha)) ⟨?_, zTok_ok hT.b hp hx, F3, F4, F5, F6, ?_, ?_⟩)
  · exact ⟨by rw [F2 1 (by decide) (by decide) (by decide) (by decide)]; exact hT.1, hT.2.1, fun j hj => by rw [F1 2 (by decide)]; exact hT.2.2 j hj⟩
  · rw [F2 6 (by decide) (by decide) (by decide) (by decide)]; exact h6
  · rw [F2 7 (by decide) (by decide) (by decide) (by decide)]; exact h7
theorem c_To_advance {l : Launch} {h : Nat} {mi : TMi} {ml : TMl} {z n : Nat} {tp : Nat → Nat} {s : PS} {Q : TMi → TMl → Nat → Prop} (hP : CP mi tp n s) (hq : ∀ mi', Fr [12] mi mi' → CP mi' tp n (zAdv tp n s) → Q mi' ml z) : CV l (h + 6) m_To_advance [.ref 12] mi ml z Q := by
  obtain ⟨p1, p2, p3, p4, p5, p6, p7, p8⟩ := id hP
  by_cases c : zF s = 0
  · unfold zAdv at hq
    rw [if_pos c] at hq
    rw [c] at p7
    rw [if_pos c] at p8
    exact c_tokC p1 p3 p2.1 p2.2.2.2.2.2.2.2 p7 p8 hq
  · unfold zAdv at hq
    rw [if_neg c] at hq
    have f4 := p2.2.2.2.2.2.2.1
    refine t_To_advance mi ml z ⟨fun k => ?_, fun _ => hq mi (Fr.refl _ _) hP⟩
    rw [p7] at k
    exact absurd (nI_inj (a := zF s) (b := 0) (by omega) (by decide) k) c
theorem zF_ne {mi : TMi} {tp : Nat → Nat} {n : Nat} {s : PS} (hP : CP mi tp n s) : mi 12 6 = 0 ↔ zF s = 0 := by
  obtain ⟨p1, p2, p3, p4, p5, p6, p7, p8⟩ := hP
  have f4 := p2.2.2.2.2.2.2.1
  rw [p7]
  exact nI_eq (a := zF s) (b := 0) (by omega) (by decide)
theorem zK_eq {mi : TMi} {tp : Nat → Nat} {n k : Nat} {s : PS} (hP : CP mi tp n s) (hk : k < 1000) : mi 12 3 = nI k ↔ zK s = k := by
  obtain ⟨p1, p2, p3, p4, p5, p6, p7, p8⟩ := hP
  have f4 := p2.2.2.1
  rw [p4]
  exact nI_eq (by omega) (by omega)
theorem c_To_sees {l : Launch} {h : Nat} {mi : TMi} {ml : TMl} {z n k : Nat} {tp : Nat → Nat} {s : PS} {Q : Int32 → TMi → TMl → Nat → Prop} (hP : CP mi tp n s) (hk : k < 1000) (hq1 : zSees k s → Q 1 mi ml z) (hq0 : ¬ zSees k s → Q 0 mi ml z) : CI l (h + 1) m_To_sees [.ref 12, .int (nI k)] mi ml z Q := by
  refine t_To_sees mi ml z _ ?_
  rw [zF_ne hP, zK_eq hP hk]
  exact ⟨fun c => hq0 (fun q => c q.1), fun c => ⟨fun c2 => hq0 (fun q => c2 q.2), fun c2 => hq1 ⟨c, c2⟩⟩⟩
theorem c_To_goesOn {l : Launch} {h : Nat} {mi : TMi} {ml : TMl} {z n : Nat} {tp : Nat → Nat} {s : PS} {Q : Int32 → TMi → TMl → Nat → Prop} (hP : CP mi tp n s) (hq1 : zF s = 0 → ¬ zK s = 22 → Q 1 mi ml z) (hq0 : ¬ (zF s = 0 ∧ ¬ zK s = 22) → Q 0 mi ml z) : CI l (h + 1) m_To_goesOn [.ref 12] mi ml z Q := by
  refine t_To_goesOn mi ml z ?_
  rw [zF_ne hP, show (mi 12 3 = 22) ↔ zK s = 22 from zK_eq hP (k := 22) (by decide)]
  exact ⟨fun c => hq0 (fun q => c q.1), fun c => ⟨fun c2 => hq0 (fun q => q.2 c2), fun c2 => hq1 c c2⟩⟩
theorem c_To_refuse {l : Launch} {h : Nat} {mi : TMi} {ml : TMl} {z n w : Nat} {tp : Nat → Nat} {s : PS} {Q : TMi → TMl → Nat → Prop} (hP : CP mi tp n s) (hw : w ≤ 4) (hw0 : 0 < w) (hq : ∀ mi', Fr [12] mi mi' → CP mi' tp n (zRf w s) → Q mi' ml z) : CV l (h + 1) m_To_refuse [.ref 12, .int (nI w)] mi ml z Q := by
  refine t_To_refuse mi ml z _ ?_
  rw [zF_ne hP, show (mi 12 3 = 23) ↔ zK s = 23 from zK_eq hP (k := 23) (by decide)]
  obtain ⟨p1, p2, p3, p4, p5, p6, p7, p8⟩ := id hP
  have ok := zRf_ok hw p2
  by_cases c : zF s = 0
  · refine ⟨fun k => absurd c k, fun _ => ?_⟩
    have fin : ∀ v : Nat, 0 < v → zRf w s = (zK s, zV s, zQ s, zE s, v, zQ s) → Q (up (up mi 12 6 (nI v)) 12 7 ((up mi 12 6 (nI v)) 12 4)) ml z := fun v hv ev => by
      rw [ev] at hq ok
      refine hq _ (fun a ha => ?_) ⟨?_, ok, ?_, ?_, ?_, fun e => ?_, ?_, ?_⟩
      · rw [up_ne _ _ _ (by simpa using ha), up_ne _ _ _ (by simpa using ha)]
      · exact ⟨by rw [up_nk _ _ _ (by decide), up_nk _ _ _ (by decide)]; exact p1.1, p1.2.1, fun j hj => by rw [up_ne _ _ _ (by decide), up_ne _ _ _ (by decide)]; exact p1.2.2 j hj⟩
      · rw [up_nk _ _ _ (by decide), up_nk _ _ _ (by decide)]; exact p3
      · rw [up_nk _ _ _ (by decide), up_nk _ _ _ (by decide)]; exact p4
      · rw [up_nk _ _ _ (by decide), up_nk _ _ _ (by decide)]; exact p5
      · rw [up_nk _ _ _ (by decide), up_nk _ _ _ (by decide)]; exact p6 e
      · rw [up_nk _ _ _ (by decide), up_at]; rfl
      · rw [up_at, up_nk _ _ _ (by decide), p5]
        exact (if_neg (show ¬ v = 0 by omega)).symm
    refine ⟨fun c2 => fin w hw0 ?_, fun c2 => fin 1 (by decide) ?_⟩
    · unfold zRf; rw [if_pos c, if_neg c2]
    · unfold zRf; rw [if_pos c, if_pos c2]
  · refine ⟨fun _ => ?_, fun k => absurd k c⟩
    unfold zRf at hq
    rw [if_neg c] at hq
    exact hq mi (Fr.refl _ _) hP
theorem c_To_expect {l : Launch} {h : Nat} {mi : TMi} {ml : TMl} {z n k : Nat} {tp : Nat → Nat} {s : PS} {Q : TMi → TMl → Nat → Prop} (hP : CP mi tp n s) (hk : k < 1000) (hq : ∀ mi', Fr [12] mi mi' → CP mi' tp n (zXp tp n k s) → Q mi' ml z) : CV l (h + 7) m_To_expect [.ref 12, .int (nI k)] mi ml z Q := by
  unfold zXp at hq
  refine t_To_expect mi ml z _ (c_To_sees hP hk (fun c => ⟨fun e => absurd e (by decide), fun _ => ?_⟩) (fun c => ⟨fun _ => ?_, fun e => absurd rfl e⟩))
  · rw [if_pos c] at hq
    exact c_To_advance hP hq
  · rw [if_neg c] at hq
    exact c_To_refuse hP (w := 2) (by decide) (by decide) hq
theorem c_To_expectNumber {l : Launch} {h : Nat} {mi : TMi} {ml : TMl} {z n k : Nat} {tp : Nat → Nat} {s : PS} {Q : Int32 → TMi → TMl → Nat → Prop} (hP : CP mi tp n s) (hk : k < 1000) (hq : ∀ mi', Fr [12] mi mi' → CP mi' tp n (zNum tp n (k + 1) s).1 → Q (nI (zNum tp n (k + 1) s).2) mi' ml z) : CI l (h + 7) m_To_expectNumber [.ref 12, .int (nI k)] mi ml z Q := by
  unfold zNum at hq
  refine t_To_expectNumber mi ml z _ (c_To_sees hP (k := 21) (by decide) (fun c => ⟨fun _ => ?_, fun e => absurd e (by decide)⟩) (fun c => ⟨fun e => absurd rfl e, fun _ => ?_⟩))
  · rw [if_pos c] at hq
    have hv := hP.2.1.2.2.2.2.2.1
    rw [hP.2.2.2.2.2.1 c.2, nI_leI (by omega) (by omega)]
    refine ⟨fun c2 => ?_, fun c2 => ?_⟩
    · rw [if_pos (by omega)] at hq
      exact c_To_advance hP hq
    · rw [if_neg (by omega)] at hq
      exact c_To_refuse hP (w := 3) (by decide) (by decide) hq
  · rw [if_neg c] at hq
    exact c_To_refuse hP (w := 2) (by decide) (by decide) hq
