/-! ===== the fullest choice of the class ===== -/
theorem fu_ex {a : Ln} {d : Dt} (ha : okLn a) : ∃ c n, fuA a d = some (c, n) ∧ idn (nB a) c = n ∧ (∀ y, y ∈ fxA a d → n ≤ idn (nB a) y) ∧ (fxA a d).find? (fun y => decide (idn (nB a) y ≤ n)) = some c := by
  have h := fr_find (g := idn (nB a)) (fxA a d) [] none rfl
  have h0 : 0 ∈ fxA a d := by
    unfold fxA fxl
    rw [List.mem_filter, List.mem_range]
    refine ⟨Nat.pow_pos (by decide), (fx_iff ha (Nat.pow_pos (by decide))).mpr ⟨fun b r _ e => (by rw [chW_0] at e; cases e), fun r hr => ?_⟩⟩
    rw [cnt_z (fun b hb => by simp [inn, chW_0])]
    exact Nat.zero_le _
  rw [List.nil_append] at h
  cases e : (fxA a d).foldl (frs (idn (nB a))) none with
  | none =>
    rw [e] at h
    dsimp only at h
    rw [h] at h0
    cases h0
  | some p =>
    obtain ⟨c, n⟩ := p
    rw [e] at h
    exact ⟨c, n, e, h.1, h.2.1, h.2.2⟩
theorem fu_find {a : Ln} {d : Dt} (k : Nat) : (List.range' 0 (5 ^ nB a)).find? (PF a d (nB a) k) = (fxA a d).find? (fun y => decide (idn (nB a) y ≤ k)) := by
  unfold fxA fxl
  rw [List.find?_filter, List.range_eq_range']
  exact find_congr (fun y _ => by unfold PF; rw [Bool.eq_iff_iff]; simp)
theorem c_Sv_fullestNumber {l : Launch} {h : Nat} {mi : TMi} {ml : TMl} {z : Nat} {a : Ln} {d : Dt} {Q : Int32 → TMi → TMl → Nat → Prop} (hA : CA mi a d) (hq : ∀ mi', Fr SC mi mi' → Q (frN (fuA a d)) mi' ml 17) : CI l (h + nB a + 4) m_Sv_fullestNumber [.ref 60, .ref 17] mi ml z Q := by
  have ha := hA.1
  have hB6 := ha.1
  obtain ⟨c0, n0, e1, e2, e3, e4⟩ := fu_ex (d := d) ha
  have hn0 : n0 ≤ nB a := by rw [← e2]; exact cnt_le _ _
  have hc0 : c0 < 5 ^ nB a := by
    have := List.mem_of_find?_eq_some e4
    unfold fxA fxl at this
    rw [List.mem_filter, List.mem_range] at this
    exact this.1
  rw [e1] at hq
  refine t_Sv_fullestNumber mi ml z (c_fill (n := 4) rfl (by decide) (fun m1 F1 k1 => ⟨rfl, ?_⟩))
  refine loop (P := fun i => ∀ m, Fr SC mi m → (∀ r, r < 4 → m 65 r = 0) → Ev l (h + nB a + 4) m_Sv_fullestNumber 15 ([.ref 60, .ref 17, .int (nI i)], [], st m ml 17) (qI Q)) n0 (fun m F hk => ?_) (fun i hi ih m F hk => ?_) m1 (F1.weak (by simp)) k1
  · have hAm : CA m a d := hA.of F (by decide)
    refine t_Sv_fullestNumber_15 m ml 17 _ ⟨fun c => absurd c (fun q => ?_), fun _ => ?_⟩
    · rw [hAm.2.2.1.1] at q
      exact absurd ((nI_ltI (by omega) (by omega)).mp q) (by omega)
    · rw [hAm.2.2.1.1]
      refine c_Sv_fillsFrom (nB a) (h := h) (k := n0) (mi := m) (c := 0) (Nat.le_refl _) (by omega) hAm ⟨Nat.zero_mod _, by omega, fun b h1 h2 => by omega, fun r hr => ?_, fun b r e => ?_, fun r hr => ?_⟩ (fun hf => ?_) (fun c' hf m2 F2 hw2 => ⟨fun q => absurd q (by decide), fun _ => ?_⟩)
      · rw [hk r hr, cnt_z (fun b hb => by simp [inn, chW_0])]; rfl
      · rw [chW_0] at e; cases e
      · rw [cnt_z (fun b hb => by simp [inn, chW_0])]; omega
      · rw [fu_find, e4] at hf; cases hf
      · rw [fu_find, e4] at hf
        cases hf
        have hA2 : CA m2 a d := hAm.of F2 (by simp)
        refine c_Sv_numberOf hA2.2.2.1.1 hB6 hw2 (fun b hb => ?_) ?_
        · cases e : chW c0 b with
          | none => simp [dg]
          | some r => have := chW_lt e; simp only [dg]; omega
        · rw [cn_self, Nat.mod_eq_of_lt hc0]
          exact hq m2 (F.step (F2.weak (by simp)))
  · have hAm : CA m a d := hA.of F (by decide)
    refine t_Sv_fullestNumber_15 m ml 17 _ ⟨fun c => absurd c (fun q => ?_), fun _ => ?_⟩
    · rw [hAm.2.2.1.1] at q
      exact absurd ((nI_ltI (by omega) (by omega)).mp q) (by omega)
    · rw [hAm.2.2.1.1, nI_1]
      refine c_Sv_fillsFrom (nB a) (h := h) (k := i) (mi := m) (c := 0) (Nat.le_refl _) (by omega) hAm ⟨Nat.zero_mod _, by omega, fun b h1 h2 => by omega, fun r hr => ?_, fun b r e => ?_, fun r hr => ?_⟩ (fun hf m2 F2 _ k5 => ⟨fun _ => ih m2 (F.step (F2.weak (by simp))) (fun r hr => by rw [k5 r hr]; exact hk r hr), fun q => absurd rfl q⟩) (fun c' hf => ?_)
      · rw [hk r hr, cnt_z (fun b hb => by simp [inn, chW_0])]; rfl
      · rw [chW_0] at e; cases e
      · rw [cnt_z (fun b hb => by simp [inn, chW_0])]; omega
      · rw [fu_find] at hf
        have h1 := List.mem_of_find?_eq_some hf
        have h2 := List.find?_some hf
        rw [decide_eq_true_eq] at h2
        have := e3 c' h1
        omega
theorem c_B_fullest {l : Launch} {h : Nat} {mi : TMi} {ml : TMl} {z : Nat} {a : Ln} {d : Dt} {Q : Int32 → TMi → TMl → Nat → Prop} (hA : CA mi a d) (hq : ∀ mi', Fr SC mi mi' → Q (frN (fuA a d)) mi' ml 17) : CI l (h + 11) m_B_fullest [.ref 1] mi ml z Q := by
  have hB6 := hA.1.1
  refine t_B_fullest mi ml z ?_
  rw [show h + 10 = (h + (6 - nB a)) + nB a + 4 by omega]
  exact c_Sv_fullestNumber hA hq
