/-! ===== the reference notes, and goes back ===== -/
theorem wix {n i : Nat} (hn : n < 10) (hi : i < 40) : ((70 + 40 * nI n) + nI i).toNatClampNeg = 70 + 40 * n + i ∧ vp_in ((70 + 40 * nI n) + nI i) 4113 := by
  have e : (70 + 40 * nI n : Int32) + nI i = nI (70 + 40 * n + i) := by
    rw [show (40 : Int32) * nI n = nI (40 * n) from mulL 40 n, show (70 : Int32) + nI (40 * n) = nI (70 + 40 * n) from addL 70 (40 * n), nI_add]
  rw [e]
  exact ⟨nI_clamp (by omega), vp_in_nI (by omega) (by decide)⟩
/-- what noting leaves as it was -/
def F120n (mi mi' : TMi) : Prop := ∀ k, k < 69 ∨ 470 ≤ k → mi' 120 k = mi 120 k
theorem c_notes58 {l : Launch} {h : Nat} {mi : TMi} {ml : TMl} {z : Nat} {n : Nat} {Q : TMi → TMl → Nat → Prop} (hn : mi 120 69 = nI n) (hn10 : n < 10)
    (hq : ∀ mi', Fr [120] mi mi' → mi' 120 69 = nI (n + 1) → (∀ k, k < 40 → mi' 120 (70 + 40 * n + k) = mi 128 k) → (∀ k, k ≠ 69 → (k < 70 + 40 * n ∨ 110 + 40 * n ≤ k) → mi' 120 k = mi 120 k) → Q mi' ml z) : Ev l (h + 1) m_R_notes 58 ([.ref 119, .int 0], [], st mi ml z) (qV Q) := by
  refine loop (P := fun i => ∀ m, Fr [120] mi m → (∀ k, k < i → m 120 (70 + 40 * n + k) = mi 128 k) → (∀ k, (k < 70 + 40 * n ∨ 110 + 40 * n ≤ k) → m 120 k = mi 120 k) → Ev l (h + 1) m_R_notes 58 ([.ref 119, .int (nI i)], [], st m ml z) (qV Q)) 40 (fun m F hk ho => ?_) (fun i hi ih m F hk ho => ?_) mi (Fr.refl _ _) (fun k hk => absurd hk (Nat.not_lt_zero _)) (fun _ _ => rfl)
  · refine t_R_notes_58 m ml z _ ⟨fun _ => ?_, fun c => absurd (by decide) c⟩
    have e : m 120 69 = nI n := by rw [ho 69 (by omega)]; exact hn
    rw [e, nI_1]
    refine hq _ (F.step (Fr_up _ _ _ _)) (up_at _ _ _ _) (fun k hk' => ?_) (fun k hk1 hk2 => ?_)
    · rw [up_nk _ _ _ (by omega)]; exact hk k hk'
    · rw [up_nk _ _ _ hk1]; exact ho k hk2
  · have e : m 120 69 = nI n := by rw [ho 69 (by omega)]; exact hn
    refine t_R_notes_58 m ml z _ ⟨fun c => absurd c (ge_no (N := 40) rfl (by decide) hi), fun _ => ?_⟩
    rw [e, (wix hn10 hi).1, cl_nI (by omega), nI_1, F 128 (by decide)]
    refine ⟨in_nI hi (by decide), (wix hn10 hi).2, ih _ (F.step (Fr_up _ _ _ _)) (fun k hk' => ?_) (fun k hk' => ?_)⟩
    · by_cases q : k = i
      · subst q; rw [up_at]
      · rw [up_nk _ _ _ (by omega)]; exact hk k (by omega)
    · rw [up_nk _ _ _ (by omega)]; exact ho k hk'
theorem c_notes {l : Launch} {h : Nat} {mi : TMi} {ml : TMl} {z : Nat} {d : Dt} {hs : List Dt} {Q : TMi → TMl → Nat → Prop} (hp : PsR (mi 120) hs) (hl : hs.length ≤ 10) (hc : Cr (mi 128) d)
    (hq : ∀ mi', Fr [120] mi mi' → F120n mi mi' → PsR (mi' 120) ((d :: hs).take 10) → Q mi' ml z) : CV l (h + 1) m_R_notes [.ref 119] mi ml z Q := by
  have hten : ∀ k : Nat, k < 11 → (nI k = 10 ↔ k = 10) := fun k hk => nI_eq (b := 10) (by omega) (by decide)
  have lt_of : ∀ {j : Nat} {x : Dt}, hs[j]? = some x → j < hs.length := fun e => (List.getElem?_eq_some_iff.mp e).1
  refine t_R_notes mi ml z ⟨fun c => ?_, fun c => ?_⟩
  · rw [hp.1, hten _ (by omega)] at c
    refine c_notes58 hp.1 (by omega) (fun m F e1 e2 e3 => hq m F (fun k hk => e3 k (by omega) (by omega)) ⟨?_, fun j d' hd' => ?_⟩)
    · rw [e1, List.length_take, List.length_cons, Nat.min_eq_right (by omega)]
    · rw [List.length_take, List.length_cons, Nat.min_eq_right (by omega)]
      have hj : j < 10 := by
        have := (List.getElem?_eq_some_iff.mp hd').1
        simp at this
        omega
      rw [List.getElem?_take, if_pos hj] at hd'
      cases j with
      | zero =>
        simp at hd'
        subst hd'
        exact hc.ext (fun k hk => by rw [← e2 k hk]; congr 1)
      | succ j =>
        simp at hd'
        have hj2 := lt_of hd'
        refine (hp.2 j d' hd').ext (fun k hk => ?_)
        rw [show hs.length + 1 - 1 - (j + 1) = hs.length - 1 - j by omega]
        exact e3 _ (by omega) (by omega)
  · rw [hp.1, hten _ (by omega)] at c
    refine loop (P := fun i => ∀ m, Fr [120] mi m → (∀ k, k < i → m 120 (70 + k) = mi 120 (110 + k)) → (∀ k, (k < 70 ∨ 70 + i ≤ k) → m 120 k = mi 120 k) → Ev l (h + 1) m_R_notes 14 ([.ref 119, .int (nI i)], [], st m ml z) (qV Q)) 360 (fun m F hk ho => ?_) (fun i hi ih m F hk ho => ?_) mi (Fr.refl _ _) (fun k hk => absurd hk (Nat.not_lt_zero _)) (fun _ _ => rfl)
    · refine t_R_notes_14 m ml z _ ⟨fun _ => ?_, fun c => absurd (by decide) c⟩
      have e : m 120 69 = nI 10 := by rw [ho 69 (by omega), hp.1, c]
      rw [e, show nI 10 - 1 = nI 9 by decide]
      refine c_notes58 (n := 9) (up_at _ _ _ _) (by decide) (fun m' F' e1 e2 e3 => hq m' (F.step ((Fr_up _ _ _ _).step F')) (fun k hk' => ?_) ⟨?_, fun j d' hd' => ?_⟩)
      · rw [e3 k (by omega) (by omega), up_nk _ _ _ (by omega), ho k (by omega)]
      · rw [e1, List.length_take, List.length_cons, c]; rfl
      · rw [List.length_take, List.length_cons, c]
        have hj : j < 10 := by
          have := (List.getElem?_eq_some_iff.mp hd').1
          simp at this
          omega
        rw [List.getElem?_take, if_pos hj] at hd'
        cases j with
        | zero =>
          simp at hd'
          subst hd'
          refine hc.ext (fun k hk' => ?_)
          have := e2 k hk'
          rw [up_ne _ _ _ (by decide), F 128 (by decide)] at this
          exact this
        | succ j =>
          simp at hd'
          have hj2 := lt_of hd'
          refine (hp.2 j d' hd').ext (fun k hk' => ?_)
          rw [c]
          show m' 120 (70 + 40 * (10 - 1 - (j + 1)) + k) = mi 120 (70 + 40 * (10 - 1 - j) + k)
          rw [e3 _ (by omega) (by omega), up_nk _ _ _ (by omega), show 70 + 40 * (10 - 1 - (j + 1)) + k = 70 + (40 * (8 - j) + k) by omega, hk _ (by omega)]
          congr 1
          omega
    · refine t_R_notes_14 m ml z _ ⟨fun c => absurd c (ge_no (N := 360) rfl (by decide) hi), fun _ => ?_⟩
      rw [addL_cl 110 i (by omega), addL_cl 70 i (by omega), nI_1, ho (110 + i) (by omega)]
      refine ⟨in_addL (a := 110) (by omega) (by decide), in_addL (a := 70) (by omega) (by decide), ih _ (F.step (Fr_up _ _ _ _)) (fun k hk' => ?_) (fun k hk' => ?_)⟩
      · by_cases q : k = i
        · subst q; rw [up_at]
        · rw [up_nk _ _ _ (by omega)]; exact hk k (by omega)
      · rw [up_nk _ _ _ (by omega)]; exact ho k (by omega)
/-- undo -/
theorem c_R_undo {l : Launch} {h : Nat} {mi : TMi} {ml : TMl} {z : Nat} {x : Int32} {hs : List Dt} {Q : Int32 → TMi → TMl → Nat → Prop} (hp : PsR (mi 120) hs) (hl : hs.length ≤ 10)
    (hno : ¬ (1 ≤ x.toInt ∧ x.toInt ≤ hs.length) → Q (-3) (up mi 119 0 0) ml z)
    (hq : ∀ (n : Nat) (d : Dt) mi', x = nI n → 0 < n → hs[n - 1]? = some d → Fr [119, 120] mi mi' → mi' 119 = (up mi 119 0 0) 119 → (∀ k, k < 29 ∨ 470 ≤ k → mi' 120 k = mi 120 k) → CrA mi' d → PsR (mi' 120) (hs.drop n) → Q (nI (hs.length - n)) mi' ml z) : CI l (h + 2) m_R_undo [.ref 119, .int x] mi ml z Q := by
  have g0 : (up mi 119 0 0) 120 = mi 120 := up_ne _ _ _ (by decide)
  refine t_R_undo mi ml z _ (c_R_within ?_)
  rw [t64, c1_64, show (10 : Int64).toInt = 10 by decide, g0, hp.1]
  refine ⟨fun c => ?_, fun c => ⟨fun c2 => ?_, fun c2 => ?_⟩⟩
  · rw [bI_0, decide_eq_false_iff_not] at c
    exact hno (fun q => c ⟨q.1, by omega⟩)
  · rw [bI_0, Bool.not_eq_false, decide_eq_true_eq] at c
    have hx := nI_toNat (x := x) (by omega)
    generalize hn : x.toInt.toNat = n at hx
    have hn0 : 0 < n := by omega
    subst hx
    rw [nI_leI (by omega) (by omega)] at c2
    obtain ⟨d, hd⟩ : ∃ d, hs[n - 1]? = some d := ⟨hs[n - 1]'(by omega), List.getElem?_eq_getElem (by omega)⟩
    have k2 : nI hs.length - nI n = nI (hs.length - n) := by
      have : ∀ x, x < 11 → ∀ n, n < 11 → n ≤ x → nI x - nI n = nI (x - n) := by decide +kernel
      exact this _ (by omega) n (by omega) (by omega)
    rw [k2]
    have key := hq n d
    refine loop (P := fun i => ∀ m, Fr [119, 120] mi m → m 119 = (up mi 119 0 0) 119 → m 120 69 = nI (hs.length - n) → (∀ k, k < i → m 120 (29 + k) = mi 120 (70 + 40 * (hs.length - n) + k)) → (∀ k, (k < 29 ∨ 70 ≤ k) → m 120 k = mi 120 k) → Ev l (h + 2) m_R_undo 44 ([.ref 119, .retAddr 0, .int (nI i)], [], st m ml z) (qI Q)) 40 (fun m F F9 e1 hk ho => ?_) (fun i hi ih m F F9 e1 hk ho => ?_) _ ?_ ?_ ?_ (fun k hk => absurd hk (Nat.not_lt_zero _)) ?_
    · refine t_R_undo_44 m ml z _ ⟨fun _ => ?_, fun c => absurd (by decide) c⟩
      rw [e1]
      refine key m rfl hn0 hd F F9 (fun k hk' => ho k (by omega)) ?_ ⟨?_, fun j d' hd' => ?_⟩
      · refine (hp.2 (n - 1) d hd).ext (fun k hk' => ?_)
        rw [hk k hk']
        congr 1
        omega
      · rw [e1, List.length_drop]
      · rw [List.getElem?_drop] at hd'
        have hj := (List.getElem?_eq_some_iff.mp hd').1
        refine (hp.2 (n + j) d' hd').ext (fun k hk' => ?_)
        rw [List.length_drop, show hs.length - n - 1 - j = hs.length - 1 - (n + j) by omega]
        exact ho _ (by omega)
    · refine t_R_undo_44 m ml z _ ⟨fun c => absurd c (ge_no (N := 40) rfl (by decide) hi), fun _ => ?_⟩
      have w := wix (n := hs.length - n) (by omega) hi
      rw [e1, w.1, addL_cl 29 i (by omega), nI_1, ho (70 + 40 * (hs.length - n) + i) (by omega)]
      refine ⟨w.2, in_addL (a := 29) (by omega) (by decide), ih _ (F.step ((Fr_up _ _ _ _).weak (by simp))) ?_ ?_ (fun k hk' => ?_) (fun k hk' => ?_)⟩
      · rw [up_ne _ _ _ (by decide)]; exact F9
      · rw [up_nk _ _ _ (by omega)]; exact e1
      · by_cases q : k = i
        · subst q; rw [up_at]
        · rw [up_nk _ _ _ (by omega)]; exact hk k (by omega)
      · rw [up_nk _ _ _ (by omega)]; exact ho k hk'
    · exact ((Fr_up mi 119 0 0).weak (by simp)).step ((Fr_up _ _ _ _).weak (by simp))
    · rw [up_ne _ _ _ (by decide)]
    · exact up_at _ _ _ _
    · intro k hk'
      rw [up_nk _ _ _ (by omega), g0]
  · rw [bI_0, Bool.not_eq_false, decide_eq_true_eq] at c
    have hx := nI_toNat (x := x) (by omega)
    refine hno (fun q => c2 ?_)
    rw [hx]
    exact nI_le (by omega) (by omega)
