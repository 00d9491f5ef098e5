/-! ===== the reference: rivers ask, and a liar among becks ===== -/
def lieL (lr : Option Nat) (tr : Nat → Option Nat) (L : Nat → Nat → Int) : Nat → Nat → Int := fun b r => if lr = some b then (match tr r with | none => 0 | some k => 10 - (k : Int)) else L b r
def LieS (mi : TMi) (lr : Option Nat) (tr : Nat → Option Nat) : Prop := mi 119 27 = oI lr ∧ ∀ x, lr = some x → x < 6 ∧ (∀ r, r < 4 → mi 132 r = oI (tr r)) ∧ (∀ r k, r < 4 → tr r = some k → k < 4) ∧ ∀ r r' k, r < 4 → r' < 4 → tr r = some k → tr r' = some k → r = r'
theorem LieS.fr {mi mi' : TMi} {lr : Option Nat} {tr : Nat → Option Nat} (h : LieS mi lr tr) (e1 : mi' 119 = mi 119) (e2 : mi' 132 = mi 132) : LieS mi' lr tr := ⟨by rw [e1]; exact h.1, fun x hx => ⟨(h.2 x hx).1, fun r hr => by rw [e2]; exact (h.2 x hx).2.1 r hr, (h.2 x hx).2.2⟩⟩
theorem lie_none {tr : Nat → Option Nat} {L : Nat → Nat → Int} : lieL none tr L = L := by funext b r; simp [lieL]
theorem nar_bI (p : Bool) : narrow .boolean (.int (bI p)) = .int (bI p) := by cases p <;> rfl
theorem lr_iff {mi : TMi} {lr : Option Nat} {tr : Nat → Option Nat} {b : Nat} (h : LieS mi lr tr) (hb : b < 6) : nI b = mi 119 27 ↔ lr = some b := by
  rw [h.1]
  constructor
  · intro e
    cases k : lr with
    | none => rw [k] at e; exact absurd e (neg1_ne (by omega))
    | some x =>
      rw [k] at e
      have := (h.2 x k).1
      rw [nI_inj (by omega) (by omega) e]
  · intro e; rw [e]; rfl
theorem c_R_wouldTold {l : Launch} {h : Nat} {mi : TMi} {ml : TMl} {z : Nat} {B R b r : Nat} {L T : Nat → Nat → Int} {rm : Nat → Nat} {lr : Option Nat} {tr : Nat → Option Nat} {Q : Int32 → TMi → TMl → Nat → Prop} (hH : RH mi B R L T rm) (hS : LieS mi lr tr) (hb : b < B) (hr : r < R) (hq : Q (bI (wdO (lieL lr tr L) T b r)) mi ml z) : CI l (h + 2) m_R_wouldTold [.ref 119, .int (nI b), .int (nI r)] mi ml z Q := by
  obtain ⟨hB, hB6, hR, hR4, hL, hT, _, _, _⟩ := hH
  refine t_R_wouldTold mi ml z _ _ ?_
  rw [lr_iff hS (show b < 6 by omega), cl_nI (show r < 2 ^ 31 by omega), ix_cl (show b < 6 by omega) (show r < 4 by omega)]
  refine ⟨fun c => c_R_wouldBoth (by omega) (by omega) ⟨nar_bI _, ?_⟩, fun c => ⟨in_nI (by omega) (by decide), ?_⟩⟩
  · rw [hL, hT]
    have e : wdO (lieL lr tr L) T b r = wdO L T b r := by simp [wdO, lieL, c]
    rw [e] at hq
    exact hq
  · have hs2 := hS.2 b c
    rw [hs2.2.1 r (by omega)]
    have eT : (mi 127 (4 * b + r)).toInt = T b r := by rw [← hT]; rfl
    cases e : tr r with
    | none =>
      have e2 : wdO (lieL lr tr L) T b r = false := by simp [wdO, lieL, c, e]
      rw [e2] at hq
      exact ⟨fun _ => hq, fun q => absurd rfl q⟩
    | some k =>
      have hk := hs2.2.2.1 r k (by omega) e
      refine ⟨fun q => absurd q (neg1_ne (by omega)), fun _ => ⟨ix_in (by omega) (by omega), fun q => ?_, fun q => ?_⟩⟩
      · rw [le0, eT] at q
        have e2 : wdO (lieL lr tr L) T b r = false := by simp [wdO, q]
        rw [e2] at hq
        exact hq
      · rw [le0, eT, Decidable.not_not] at q
        have e2 : wdO (lieL lr tr L) T b r = true := by
          simp only [wdO, lieL, c, e, if_true, Bool.and_eq_true, decide_eq_true_eq]
          exact ⟨by omega, q⟩
        rw [e2] at hq
        exact hq
theorem c_R_likesTold {l : Launch} {h : Nat} {mi : TMi} {ml : TMl} {z : Nat} {B R b r o : Nat} {L T : Nat → Nat → Int} {rm : Nat → Nat} {lr : Option Nat} {tr : Nat → Option Nat} {Q : Int32 → TMi → TMl → Nat → Prop} (hH : RH mi B R L T rm) (hS : LieS mi lr tr) (hb : b < B) (hr : r < R) (ho : o < R) (hne : ¬ r = o) (hwr : wdO (lieL lr tr L) T b r = true) (hwo : wdO (lieL lr tr L) T b o = true)
    (hq : Q (bI (decide (pbO (lieL lr tr L) b o < pbO (lieL lr tr L) b r))) mi ml z) : CI l (h + 2) m_R_likesTold [.ref 119, .int (nI b), .int (nI r), .int (nI o)] mi ml z Q := by
  have hd6 := hH.b6
  obtain ⟨hB, hB6, hR, hR4, hL, hT, _, _, _⟩ := hH
  refine t_R_likesTold mi ml z _ _ _ ?_
  rw [lr_iff hS (show b < 6 by omega), cl_nI (show r < 2 ^ 31 by omega), cl_nI (show o < 2 ^ 31 by omega)]
  refine ⟨fun c => c_R_likesMore hB6 hR4 hd6 hb ho hr ⟨nar_bI _, ?_⟩, fun c => ⟨in_nI (by omega) (by decide), in_nI (by omega) (by decide), ?_⟩⟩
  · rw [hL]
    have e : ∀ x, pbO (lieL lr tr L) b x = pbO L b x := fun x => by simp [pbO, lieL, c]
    rw [e, e] at hq
    exact hq
  · have hs2 := hS.2 b c
    rw [hs2.2.1 r (by omega), hs2.2.1 o (by omega)]
    cases e : tr r with
    | none => simp [wdO, lieL, c, e] at hwr
    | some k =>
      cases e' : tr o with
      | none => simp [wdO, lieL, c, e'] at hwo
      | some k' =>
        have hk := hs2.2.2.1 r k (by omega) e
        have hk' := hs2.2.2.1 o k' (by omega) e'
        have hkk : ¬ k = k' := fun q => hne (hs2.2.2.2 r o k (by omega) (by omega) e (by rw [q]; exact e'))
        have e1 : pbO (lieL lr tr L) b r = 4 * (10 - (k : Int)) - r := by simp only [pbO, lieL, c, e, if_true]
        have e2 : pbO (lieL lr tr L) b o = 4 * (10 - (k' : Int)) - o := by simp only [pbO, lieL, c, e', if_true]
        rw [e1, e2] at hq
        show (nI k' ≤ nI k → _) ∧ (¬ nI k' ≤ nI k → _)
        rw [nI_leI (by omega) (by omega)]
        refine ⟨fun q => ?_, fun q => ?_⟩
        · rw [show bI (decide (4 * (10 - (k' : Int)) - o < 4 * (10 - (k : Int)) - r)) = 0 by rw [bI_0, decide_eq_false_iff_not]; omega] at hq
          exact hq
        · rw [show bI (decide (4 * (10 - (k' : Int)) - o < 4 * (10 - (k : Int)) - r)) = 1 by rw [bI_1, decide_eq_true_eq]; omega] at hq
          exact hq
def RfR (mi : TMi) (wo : Nat → Option Nat) (A : Nat → Nat → Bool) : Prop := ∀ b, b < 6 → mi 129 b = oI (wo b) ∧ mi 131 b = nI (enc (fun r => A r b && !decide (wo b = some r)) 4)
theorem c_R_asks1 {l : Launch} {h : Nat} {mi : TMi} {ml : TMl} {z : Nat} {B R r : Nat} {L T : Nat → Nat → Int} {rm : Nat → Nat} {lr : Option Nat} {tr : Nat → Option Nat} {wo : Nat → Option Nat} {A : Nat → Nat → Bool} {Q : Int32 → TMi → TMl → Nat → Prop} (hH : RH mi B R L T rm) (hS : LieS mi lr tr) (hs : RfR mi wo A) (hI : InvR B R (lieL lr tr L) T rm wo A) (hr : r < R)
    (hq : Q (oI (if rm r ≤ cnt (inn wo r) B then none else lst (fun b => wdO (lieL lr tr L) T b r && !A r b) (fun b => - prO T b r) B)) mi ml z) : CI l (h + 3) m_R_asks1 [.ref 119, .int (nI r)] mi ml z Q := by
  have hd7 := hH.b7
  have hH0 := hH
  obtain ⟨hB, hB6, hR, hR4, hL, hT, _, _, hrm⟩ := hH
  have hiw : isW (mi 129) B R wo := fun b hb => ⟨(hs b (by omega)).1, fun r1 e1 => (hI.1.1 b r1 hb e1).1⟩
  refine t_R_asks1 mi ml z _ (c_R_becksBy hB hB6 ?_)
  rw [isW_enc hiw hR4 (show r < 4 by omega)]
  refine c_R_bitsOf (enc_64 _ hB6) ⟨in_addL (a := 41) (by omega) (by decide), ?_⟩
  have hcl := cnt_le (inn wo r) B
  rw [pop_enc _ hB6, addL_cl 41 r (by omega), (hrm r hr).1]
  have := (hrm r hr).2
  show (nI (cnt (inn wo r) B) < nI (rm r) → _) ∧ (¬ nI (cnt (inn wo r) B) < nI (rm r) → _)
  rw [nI_ltI (by omega) (by omega)]
  refine ⟨fun c => ?_, fun c => ?_⟩
  · rw [if_neg (by omega)] at hq
    refine loop (P := fun i => Ev l (h + 3) m_R_asks1 26 ([.ref 119, .int (nI r), .int (oI (lst (fun b => wdO (lieL lr tr L) T b r && !A r b) (fun b => - prO T b r) i)), .int (nI i)], [], st mi ml z) (qI Q)) B ?_ (fun i hi ih => ?_)
    · exact t_R_asks1_26 mi ml z _ _ _ ⟨fun _ => hq, fun c => absurd (le_at hB (by omega)) c⟩
    · refine t_R_asks1_26 mi ml z _ _ _ ⟨fun c => absurd c (ge_no hB (by omega) hi), fun _ => ⟨in_nI (by omega) (by decide), ?_⟩⟩
      have hin : vp_in (nI i) 6 := in_nI (by omega) (by decide)
      have hsi := hs i (by omega)
      rw [cl_nI (show i < 2 ^ 31 by omega), nI_1]
      have skip : A r i = true → Ev l (h + 3) m_R_asks1 26 ([.ref 119, .int (nI r), .int (oI (lst (fun b => wdO (lieL lr tr L) T b r && !A r b) (fun b => - prO T b r) i)), .int (nI (i + 1))], [], st mi ml z) (qI Q) := fun c' => by
        have e : lst (fun b => wdO (lieL lr tr L) T b r && !A r b) (fun b => - prO T b r) (i + 1) = lst (fun b => wdO (lieL lr tr L) T b r && !A r b) (fun b => - prO T b r) i := by simp [lst, c']
        rw [e] at ih
        exact ih
      have ew := isW_eq hiw hR4 (show r < 4 by omega) hi
      refine ⟨fun c1 => skip (hI.2 i r hi (by rw [c1] at ew; simpa using ew.symm)), fun c1 => ⟨hin, ?_⟩⟩
      have hne : ¬ wo i = some r := fun q => c1 (by rw [hsi.1, q]; rfl)
      rw [hsi.2]
      have h16 := enc_lt (fun r => A r i && !decide (wo i = some r)) 4
      refine c_R_isIn (by omega) (by omega) ?_
      rw [enc_tb _ 4 r (by omega)]
      refine ⟨fun c2 => ?_, fun c2 => c_R_wouldTold hH0 hS hi hr ⟨fun c3 => ?_, fun c3 => ?_⟩⟩
      · rw [bI_0] at c2
        exact skip (by simpa [hne] using c2)
      · rw [bI_0] at c3
        have e : lst (fun b => wdO (lieL lr tr L) T b r && !A r b) (fun b => - prO T b r) (i + 1) = lst (fun b => wdO (lieL lr tr L) T b r && !A r b) (fun b => - prO T b r) i := by simp [lst, c3]
        rw [e] at ih
        exact ih
      · rw [bI_0] at c3 c2
        have c3' : wdO (lieL lr tr L) T i r = true := by simpa using c3
        have c2' : A r i = false := by simpa [hne] using c2
        cases e : lst (fun b => wdO (lieL lr tr L) T b r && !A r b) (fun b => - prO T b r) i with
        | none =>
          have e2 : lst (fun b => wdO (lieL lr tr L) T b r && !A r b) (fun b => - prO T b r) (i + 1) = some i := by simp [lst, c3', c2', e]
          rw [e2] at ih
          exact ⟨fun _ => ih, fun q => absurd rfl q⟩
        | some m =>
          have hm := (lst_lt e).1
          refine ⟨fun q => absurd q (neg1_ne (by omega)), fun _ => c_R_takesMore hB6 hR4 hd7 hi (show m < B by omega) hr ?_⟩
          rw [hT]
          have e2 : lst (fun b => wdO (lieL lr tr L) T b r && !A r b) (fun b => - prO T b r) (i + 1) = if prO T m r < prO T i r then some i else some m := by
            have : (- prO T i r < - prO T m r) = (prO T m r < prO T i r) := by apply propext; omega
            simp only [lst, c3', c2', e, Bool.and_true, Bool.not_false, if_true, this]
          rw [e2] at ih
          refine ⟨fun q => ?_, fun q => ?_⟩
          · rw [bI_0, decide_eq_false_iff_not] at q
            rw [if_neg q] at ih
            exact ih
          · rw [bI_0, decide_eq_false_iff_not, Decidable.not_not] at q
            rw [if_pos q] at ih
            exact ih
  · rw [if_pos (by omega)] at hq
    exact hq
theorem RfR.go {mi : TMi} {wo : Nat → Option Nat} {A : Nat → Nat → Bool} {b r r0 : Nat} (h : RfR mi wo A) (hb : b < 6) (hr0 : r0 < 4) (hx : A r b = false) (hw : wo b = some r0) (hA : A r0 b = true) : RfR (up (up mi 131 b (mi 131 b ||| ((1 : Int32) <<< (nI r0 &&& 31)))) 129 b (nI r)) (fun i => if i = b then some r else wo i) (askA A r b) := by
  intro x hx6
  rw [up_ne _ _ _ (show 131 ≠ 129 by decide)]
  by_cases q : x = b
  · subst q
    rw [up_at, up_at, (h x hx6).2, enc_set (by decide) hr0]
    refine ⟨by simp [oI], ?_⟩
    congr 1
    refine enc_congr (fun y _ => ?_)
    by_cases q2 : y = r
    · subst q2
      have : ¬ y = r0 := fun q => by rw [q, hA] at hx; cases hx
      simp [hx, this]
    · by_cases q3 : y = r0
      · subst q3; simp [askA, q2, Ne.symm q2, hA]
      · simp [askA, hw, q2, Ne.symm q2, q3, Ne.symm q3]
  · rw [up_nk _ _ _ q, up_nk _ _ _ q, up_ne _ _ _ (show 129 ≠ 131 by decide), (h x hx6).2]
    refine ⟨by simp only [q, if_false]; exact (h x hx6).1, ?_⟩
    congr 1
    exact enc_congr (fun y _ => by simp [askA, q])
theorem RfR.go0 {mi : TMi} {wo : Nat → Option Nat} {A : Nat → Nat → Bool} {b r : Nat} (h : RfR mi wo A) (hb : b < 6) (hx : A r b = false) (hw : wo b = none) : RfR (up (up mi 131 b (mi 131 b ||| 0)) 129 b (nI r)) (fun i => if i = b then some r else wo i) (askA A r b) := by
  intro x hx6
  rw [up_ne _ _ _ (show 131 ≠ 129 by decide), Int32.or_zero]
  by_cases q : x = b
  · subst q
    rw [up_at, up_at, (h x hx6).2]
    refine ⟨by simp [oI], ?_⟩
    congr 1
    refine enc_congr (fun y _ => ?_)
    by_cases q2 : y = r
    · subst q2; simp [hx]
    · simp [askA, hw, q2, Ne.symm q2]
  · rw [up_nk _ _ _ q, up_nk _ _ _ q, up_ne _ _ _ (show 129 ≠ 131 by decide), (h x hx6).2]
    refine ⟨by simp only [q, if_false]; exact (h x hx6).1, ?_⟩
    congr 1
    exact enc_congr (fun y _ => by simp [askA, q])
theorem RfR.no {mi : TMi} {wo : Nat → Option Nat} {A : Nat → Nat → Bool} {b r : Nat} (h : RfR mi wo A) (hb : b < 6) (hr : r < 4) (hne : ¬ wo b = some r) : RfR (up mi 131 b (mi 131 b ||| ((1 : Int32) <<< (nI r &&& 31)))) wo (askA A r b) := by
  intro x hx6
  rw [up_ne _ _ _ (show 129 ≠ 131 by decide)]
  refine ⟨(h x hx6).1, ?_⟩
  by_cases q : x = b
  · subst q
    rw [up_at, (h x hx6).2, enc_set (by decide) hr]
    congr 1
    refine enc_congr (fun y _ => ?_)
    by_cases q2 : y = r
    · subst q2; simp [askA, hne]
    · simp [askA, q2]
  · rw [up_nk _ _ _ q, (h x hx6).2]
    congr 1
    exact enc_congr (fun y _ => by simp [askA, q])
theorem c_R_laysByRivers {l : Launch} {h : Nat} {mi : TMi} {ml : TMl} {z : Nat} {B R : Nat} {L T : Nat → Nat → Int} {rm : Nat → Nat} {lr : Option Nat} {tr : Nat → Option Nat} {Q : TMi → TMl → Nat → Prop} (hH : RH mi B R L T rm) (hS : LieS mi lr tr)
    (hq : ∀ mi' wo, Fr [129, 131] mi mi' → isW (mi' 129) B R wo → Worst B R (lieL lr tr L) T rm wo → Q mi' ml z) : CV l (h + 4) m_R_laysByRivers [.ref 119] mi ml z Q := by
  refine t_R_laysByRivers mi ml z (c_R_begins (fun m0 F0 hs0 => ?_))
  have hB6 := hH.2.1
  have hR4 := hH.2.2.2.1
  have fin : ∀ m wo A, Fr [129, 131] mi m → RfR m wo A → InvR B R (lieL lr tr L) T rm wo A → (∀ r, r < R → cnt (inn wo r) B = rm r ∨ ∀ b, b < B → wdO (lieL lr tr L) T b r = true → (A r b = true ∧ ¬ wo b = some r) ∨ wo b = some r) → Q m ml z :=
    fun m wo A F hs hI he => hq m wo F (fun b hb => ⟨(hs b (by omega)).1, fun r e => (hI.1.1 b r hb e).1⟩) (hI.1.end hB6 he)
  refine loop (P := fun i => ∀ m wo A v, Fr [129, 131] mi m → RfR m wo A → InvR B R (lieL lr tr L) T rm wo A → (v = 0 → ∀ r, r < R → cnt (inn wo r) B = rm r ∨ ∀ b, b < B → wdO (lieL lr tr L) T b r = true → (A r b = true ∧ ¬ wo b = some r) ∨ wo b = some r) → (¬ v = 0 → i ≤ NR A) → Ev l (h + 4) m_R_laysByRivers 6 ([.ref 119, .int v, .retAddr 0, .retAddr 0], [], st m ml z) (qV Q)) 25 (fun m wo A v F hs hI h0 h1 => ?_) (fun i hi ih m wo A v F hs hI h0 h1 => ?_) m0 (fun _ => none) (fun _ _ => false) 1 F0 (fun b hb => ⟨(hs0 b hb).1, by rw [(hs0 b hb).2]; simp only [Bool.false_and]; rw [enc_none]; rfl⟩) (InvR_0 _ _ _ _ _) (fun q => absurd q (by decide)) (fun _ => Nat.zero_le _)
  · by_cases q : v = 0
    · exact t_R_laysByRivers_6 m ml z _ ⟨fun _ => fin m wo A F hs hI (h0 q), fun c => absurd q c⟩
    · have := h1 q
      have := NR_le A
      omega
  · refine t_R_laysByRivers_6 m ml z _ ⟨fun q => fin m wo A F hs hI (h0 q), fun q => ?_⟩
    have hiN := h1 q
    refine loop (P := fun j => ∀ m' wo' A' v', Fr [129, 131] mi m' → RfR m' wo' A' → InvR B R (lieL lr tr L) T rm wo' A' → ((v' = 0 ∧ i ≤ NR A' ∧ ∀ r, r < j → cnt (inn wo' r) B = rm r ∨ ∀ b, b < B → wdO (lieL lr tr L) T b r = true → (A' r b = true ∧ ¬ wo' b = some r) ∨ wo' b = some r) ∨ (v' = 1 ∧ i + 1 ≤ NR A')) → Ev l (h + 4) m_R_laysByRivers 14 ([.ref 119, .int v', .int (nI j), .retAddr 0], [], st m' ml z) (qV Q)) R (fun m' wo' A' v' F' hs' hI' hv => ?_) (fun j hj ihj m' wo' A' v' F' hs' hI' hv => ?_) m wo A 0 F hs hI (Or.inl ⟨rfl, hiN, fun r hr => absurd hr (Nat.not_lt_zero _)⟩)
    · have hHm := hH.fr (mi' := m') (F' 120 (by decide)) (F' 126 (by decide)) (F' 127 (by decide))
      refine t_R_laysByRivers_14 m' ml z _ _ ⟨fun _ => ?_, fun c => absurd (le_at hHm.2.2.1 (by omega)) c⟩
      refine ih m' wo' A' v' F' hs' hI' (fun k => ?_) (fun k => ?_)
      · rcases hv with hv | hv
        · exact hv.2.2
        · rw [hv.1] at k; exact absurd k (by decide)
      · rcases hv with hv | hv
        · exact absurd hv.1 k
        · exact hv.2
    · have hHm := hH.fr (mi' := m') (F' 120 (by decide)) (F' 126 (by decide)) (F' 127 (by decide))
      have hSm := hS.fr (mi' := m') (F' 119 (by decide)) (F' 132 (by decide))
      have hle := hI'.1.2.2.1 j hj
      have hgo : ∀ m2 wo2 A2, Fr [129, 131] m' m2 → RfR m2 wo2 A2 → InvR B R (lieL lr tr L) T rm wo2 A2 → NR A2 = NR A' + 1 → Ev l (h + 4) m_R_laysByRivers 14 ([.ref 119, .int 1, .int (nI j + 1), .retAddr 0], [], st m2 ml z) (qV Q) := fun m2 wo2 A2 F2 hs2 hI2 hN => by
        rw [nI_1]
        refine ihj m2 wo2 A2 1 (F'.step F2) hs2 hI2 (Or.inr ⟨rfl, ?_⟩)
        rcases hv with k | k <;> omega
      refine t_R_laysByRivers_14 m' ml z _ _ ⟨fun c => absurd c (ge_no hHm.2.2.1 (by omega) hj), fun _ => c_R_asks1 hHm hSm hs' hI' hj ?_⟩
      have skip : (cnt (inn wo' j) B = rm j ∨ ∀ b, b < B → wdO (lieL lr tr L) T b j = true → (A' j b = true ∧ ¬ wo' b = some j) ∨ wo' b = some j) → Ev l (h + 4) m_R_laysByRivers 14 ([.ref 119, .int v', .int (nI j + 1), .retAddr 0], [], st m' ml z) (qV Q) := fun he => by
        rw [nI_1]
        refine ihj m' wo' A' v' F' hs' hI' (hv.imp (fun k => ⟨k.1, k.2.1, fun r hr => ?_⟩) id)
        by_cases e : r = j
        · subst e; exact he
        · exact k.2.2 r (by omega)
      by_cases cc : rm j ≤ cnt (inn wo' j) B
      · rw [if_pos cc]
        exact ⟨fun q => absurd rfl q, fun _ => skip (Or.inl (by omega))⟩
      · rw [if_neg cc]
        cases e : lst (fun b => wdO (lieL lr tr L) T b j && !A' j b) (fun b => - prO T b j) B with
        | none =>
          refine ⟨fun q => absurd rfl q, fun _ => skip (Or.inr (fun b hb hw => ?_))⟩
          have := lst_none e b hb
          by_cases q : wo' b = some j
          · exact Or.inr q
          · exact Or.inl ⟨by simpa [hw] using this, q⟩
        | some b =>
          obtain ⟨hb, hp, hmax⟩ := lst_max e
          simp at hp
          have hbest : ∀ b', b' < B → wdO (lieL lr tr L) T b' j = true → A' j b' = false → prO T b' j ≤ prO T b j := fun b' hb' hw ha => hmax b' hb' (by simp [hw, ha])
          have hin : vp_in (nI b) 6 := in_nI (by omega) (by decide)
          have hN := NR_ask (A := A') (show b < 6 by omega) (show j < 4 by omega) hp.2
          have hne : ¬ wo' b = some j := fun q => by rw [hI'.2 b j hb q] at hp; cases hp.2
          rw [show oI (some b) = nI b from rfl]
          refine ⟨fun _ => ⟨hin, ?_⟩, fun q => absurd q (neg1_ne (by omega))⟩
          rw [cl_nI (show b < 2 ^ 31 by omega)]
          have F2 : ∀ x y, Fr [129, 131] m' (up (up m' 131 b x) 129 b y) := fun x y => ((Fr_up _ _ _ _).weak (by simp)).step ((Fr_up _ _ _ _).weak (by simp))
          have ewb := (hs' b (by omega)).1
          cases ew : wo' b with
          | none =>
            rw [ew] at ewb
            rw [ewb]
            refine ⟨fun _ => ⟨hin, hin, fun q => absurd rfl q, fun _ => ⟨hin, hin, ?_⟩⟩, fun q => absurd rfl q⟩
            exact hgo _ _ _ (F2 _ _) (hs'.go0 (by omega) hp.2 ew) (hI'.go hB6 hR4 hb hj hp.1 hp.2 hbest (by omega) (fun r0 q => by rw [ew] at q; cases q)) hN
          | some r0 =>
            have hr0 := hI'.1.1 b r0 hb ew
            have hner : ¬ j = r0 := fun q => hne (by rw [q]; exact ew)
            rw [ew, show oI (some r0) = nI r0 from rfl] at ewb
            rw [ewb]
            refine ⟨fun q => absurd q (neg1_ne (by omega)), fun _ => ⟨hin, c_R_likesTold hHm hSm hb hj hr0.1 hner hp.1 hr0.2.1 ⟨fun q => ⟨hin, hin, ?_⟩, fun q => ⟨hin, hin, ?_⟩⟩⟩⟩
            · rw [bI_0, decide_eq_false_iff_not] at q
              have hne2 : ¬ pbO (lieL lr tr L) b r0 = pbO (lieL lr tr L) b j := fun k => hner (pbO_inj (by omega) (by omega) k).symm
              exact hgo _ _ _ ((Fr_up _ _ _ _).weak (by simp)) (hs'.no (by omega) (by omega) hne) (hI'.no hB6 hb hj hp.1 hp.2 hbest ew (by omega)) hN
            · rw [bI_0, decide_eq_false_iff_not, Decidable.not_not] at q
              rw [ewb]
              refine ⟨fun _ => ⟨hin, hin, hin, ?_⟩, fun q => absurd q (neg1_ne (by omega))⟩
              exact hgo _ _ _ (F2 _ _) (hs'.go (by omega) (by omega) hp.2 ew (hI'.2 b r0 hb ew)) (hI'.go hB6 hR4 hb hj hp.1 hp.2 hbest (by omega) (fun r1 k => by rw [ew] at k; cases k; exact q)) hN
