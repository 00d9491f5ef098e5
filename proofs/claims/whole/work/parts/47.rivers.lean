/-! ===== the class's match: the choice best for rivers ===== -/
def InvR (B R : Nat) (L T : Nat → Nat → Int) (rm : Nat → Nat) (wo : Nat → Option Nat) (A : Nat → Nat → Bool) : Prop := AskR B R L T rm wo (fun b r => A r b = true ∧ ¬ wo b = some r) ∧ ∀ b r, b < B → wo b = some r → A r b = true
theorem InvR_0 (B R : Nat) (L T : Nat → Nat → Int) (rm : Nat → Nat) : InvR B R L T rm (fun _ => none) (fun _ _ => false) :=
  ⟨⟨fun b r hb e => (by cases e), fun b r hb hr e => (by cases e.1), fun r hr => (by rw [cnt_nowhere]; exact Nat.zero_le _), fun r b b' hr hb hb' e => (by rcases e with e | e <;> simp at e), fun mu hmu b r hb hr e => (by cases e.1)⟩, fun b r hb e => (by cases e)⟩
theorem AskR.congr {B R : Nat} {L T : Nat → Nat → Int} {rm : Nat → Nat} {wo : Nat → Option Nat} {X Y : Nat → Nat → Prop} (h : AskR B R L T rm wo X) (e : ∀ b r, b < B → (X b r ↔ Y b r)) : AskR B R L T rm wo Y := by
  obtain ⟨h1, h2, h3, h4, h5⟩ := h
  exact ⟨fun b r hb k => ⟨(h1 b r hb k).1, (h1 b r hb k).2.1, fun q => (h1 b r hb k).2.2 ((e b r hb).mpr q)⟩, fun b r hb hr q => h2 b r hb hr ((e b r hb).mpr q), h3, fun r b b' hr hb hb' k hw hx => h4 r b b' hr hb hb' (k.imp (e b r hb).mpr id) hw (fun q => hx ((e b' r hb').mp q)), fun mu hmu b r hb hr q => h5 mu hmu b r hb hr ((e b r hb).mpr q)⟩
theorem InvR.go {B R : Nat} {L T : Nat → Nat → Int} {rm : Nat → Nat} {wo : Nat → Option Nat} {A : Nat → Nat → Bool} (hB6 : B ≤ 6) (hR4 : R ≤ 4) (h : InvR B R L T rm wo A) {b r : Nat} (hb : b < B) (hr : r < R) (hw : wdO L T b r = true) (hx : A r b = false) (hbest : ∀ b', b' < B → wdO L T b' r = true → A r b' = false → prO T b' r ≤ prO T b r) (hc : cnt (inn wo r) B < rm r)
    (hbt : ∀ r0, wo b = some r0 → pbO L b r0 < pbO L b r) : InvR B R L T rm (fun i => if i = b then some r else wo i) (askA A r b) := by
  have hne : ¬ wo b = some r := fun q => by rw [h.2 b r hb q] at hx; cases hx
  have k := h.1.go hB6 hR4 hb hr hw (fun q => by rw [hx] at q; cases q.1) hne (fun b' hb' hw' q1 q2 => hbest b' hb' hw' (by
    cases e : A r b'
    · rfl
    · exact absurd ⟨e, q2⟩ q1)) hc hbt
  have eX : ∀ b' r', b' < B → ((askA A r b r' b' = true ∧ ¬ (if b' = b then some r else wo b') = some r') ↔ ((A r' b' = true ∧ ¬ wo b' = some r') ∨ (b' = b ∧ wo b = some r'))) := by
    intro b' r' hb'
    by_cases q : b' = b
    · subst q
      by_cases q2 : r' = r
      · subst q2; simp [hx, hne]
      · by_cases q3 : wo b' = some r'
        · simp [askA, q3, q2, h.2 b' r' hb q3, Ne.symm q2]
        · simp [askA, q3, q2, Ne.symm q2]
    · simp [askA, q]
  refine ⟨k.congr (fun b' r' hb' => (eX b' r' hb').symm), fun b' r' hb' e => ?_⟩
  by_cases q : b' = b
  · subst q; simp at e; subst e; simp [askA]
  · simp [q] at e; simp [askA, h.2 b' r' hb' e]
theorem InvR.no {B R : Nat} {L T : Nat → Nat → Int} {rm : Nat → Nat} {wo : Nat → Option Nat} {A : Nat → Nat → Bool} (hB6 : B ≤ 6) (h : InvR B R L T rm wo A) {b r r0 : Nat} (hb : b < B) (hr : r < R) (hw : wdO L T b r = true) (hx : A r b = false) (hbest : ∀ b', b' < B → wdO L T b' r = true → A r b' = false → prO T b' r ≤ prO T b r) 
    (h0 : wo b = some r0) (hbt : pbO L b r < pbO L b r0) : InvR B R L T rm wo (askA A r b) := by
  have hne : ¬ wo b = some r := fun q => by rw [h.2 b r hb q] at hx; cases hx
  have k := h.1.no hB6 hb hr hw (fun b' hb' hw' q1 q2 => hbest b' hb' hw' (by
    cases e : A r b'
    · rfl
    · exact absurd ⟨e, q2⟩ q1)) h0 hbt
  have eX : ∀ b' r', b' < B → ((askA A r b r' b' = true ∧ ¬ wo b' = some r') ↔ ((A r' b' = true ∧ ¬ wo b' = some r') ∨ (b' = b ∧ r' = r))) := by
    intro b' r' hb'
    by_cases q : b' = b
    · subst q
      by_cases q2 : r' = r
      · subst q2; simp [askA, hne]
      · simp [askA, q2]
    · simp [askA, q]
  refine ⟨k.congr (fun b' r' hb' => (eX b' r' hb').symm), fun b' r' hb' e => ?_⟩
  simp [askA, h.2 b' r' hb' e]
def NR (A : Nat → Nat → Bool) : Nat := smr (fun r => cnt (A r) 6) 4
theorem NR_ask {A : Nat → Nat → Bool} {b r : Nat} (hb : b < 6) (hr : r < 4) (h : A r b = false) : NR (askA A r b) = NR A + 1 := by
  refine smr_up (b := r) (fun x hx => cnt_congr (fun y _ => by simp [askA, hx])) ?_ hr
  have := cnt_clr (p := askA A r b r) (m := b) (B := 6) hb (by simp [askA])
  rw [← this]
  congr 1
  refine cnt_congr (fun y _ => ?_)
  by_cases q : y = b
  · subst q; simp [h]
  · simp [askA, q]
theorem NR_le (A : Nat → Nat → Bool) : NR A ≤ 24 := by
  have k : ∀ x, cnt (A x) 6 ≤ 6 := fun x => cnt_le _ _
  have k0 := k 0; have k1 := k 1; have k2 := k 2; have k3 := k 3
  simp only [NR, smr]
  omega
theorem lst_max {p : Nat → Bool} {f : Nat → Int} {n b : Nat} (h : lst p (fun b => - f b) n = some b) : b < n ∧ p b = true ∧ ∀ b', b' < n → p b' = true → f b' ≤ f b := by
  have h0 := lst_lt h
  exact ⟨h0.1, h0.2, fun b' hb' hp => by have := lst_min h b' hb' hp; omega⟩
theorem c_Ma_nextBeck_17 {l : Launch} {h : Nat} {mi : TMi} {ml : TMl} {z : Nat} {B R r : Nat} {L T : Nat → Nat → Int} {wo : Nat → Option Nat} {A : Nat → Nat → Bool} {Q : Int32 → TMi → TMl → Nat → Prop} (hB : mi 18 0 = nI B) (hB6 : B ≤ 6) (hR4 : R ≤ 4) (hl : SLp mi 28 29 30 31 32 B R allP L T) (hs : MaS mi B 6 wo A) (hr : r < R)
    (hq : Q (oI (lst (fun b => wdO L T b r && !A r b) (fun b => - prO T b r) B)) mi ml z) : CI l (h + 3) m_Ma_nextBeck [.ref 55, .ref 17, .int (nI r)] mi ml z Q := by
  refine t_Ma_nextBeck_17 mi ml z _ ?_
  refine loop (P := fun i => Ev l (h + 3) m_Ma_nextBeck 5 ([.ref 55, .ref 17, .int (nI r), .int (oI (lst (fun b => wdO L T b r && !A r b) (fun b => - prO T b r) i)), .int (nI i), .retAddr 0], [], st mi ml z) (qI Q)) B ?_ (fun i hi ih => ?_)
  · exact t_Ma_nextBeck_17_5 mi ml z _ _ _ ⟨fun _ => hq, fun c => absurd (le_at hB (by omega)) c⟩
  · refine t_Ma_nextBeck_17_5 mi ml z _ _ _ ⟨fun c => absurd c (ge_no hB (by omega) hi), fun _ => c_Sc_bothWould_17 hB6 hR4 hl hi hr ⟨fun c => ?_, fun c => ⟨in_nI (by omega) (by decide), ?_⟩⟩⟩
    · rw [bI_0] at c
      have e : lst (fun b => wdO L T b r && !A r b) (fun b => - prO T b r) (i + 1) = lst (fun b => wdO L T b r && !A r b) (fun b => - prO T b r) i := by simp [lst, c]
      rw [e] at ih
      rw [nI_1]
      exact ih
    · rw [bI_0] at c
      have c' : wdO L T i r = true := by simpa using c
      rw [cl_nI (by omega), hs.2.2 r (by omega), sr_tb (enc_lt (A r) 6) (by omega), enc_tb (A r) 6 i (by omega)]
      refine ⟨fun c1 => ?_, fun c1 => ?_⟩
      · have c1' : A r i = true := by simpa using c1
        have e : lst (fun b => wdO L T b r && !A r b) (fun b => - prO T b r) (i + 1) = lst (fun b => wdO L T b r && !A r b) (fun b => - prO T b r) i := by simp [lst, c1']
        rw [e] at ih
        rw [nI_1]
        exact ih
      · cases e : lst (fun b => wdO L T b r && !A r b) (fun b => - prO T b r) i with
        | none =>
          have e2 : lst (fun b => wdO L T b r && !A r b) (fun b => - prO T b r) (i + 1) = some i := by simp [lst, c', c1, e]
          rw [e2] at ih
          rw [nI_1]
          exact ⟨fun _ => ih, fun q => absurd rfl q⟩
        | some m =>
          have hm := (lst_lt e).1
          refine ⟨fun q => absurd q (neg1_ne (by omega)), fun _ => c_Sc_takesBetter_17 hB6 hR4 hl hi hr (show m < B by omega) ?_⟩
          rw [nI_1]
          have e2 : lst (fun b => wdO L T b r && !A r b) (fun b => - prO T b r) (i + 1) = if prO T m r < prO T i r then some i else some m := by
            have : (- prO T i r < - prO T m r) = (prO T m r < prO T i r) := by apply propext; omega
            simp only [lst, c', c1, e, Bool.and_true, Bool.not_false, if_true, this]
          rw [e2] at ih
          refine ⟨fun q => ?_, fun q => ?_⟩
          · rw [bI_0, decide_eq_false_iff_not] at q
            rw [if_neg q] at ih
            exact ih
          · rw [bI_0, decide_eq_false_iff_not, Decidable.not_not] at q
            rw [if_pos q] at ih
            exact ih
theorem c_Ma_asksOne_17 {l : Launch} {h : Nat} {mi : TMi} {ml : TMl} {z : Nat} {B R r : Nat} {L T : Nat → Nat → Int} {rm : Nat → Nat} {wo : Nat → Option Nat} {A : Nat → Nat → Bool} {Q : Int32 → TMi → TMl → Nat → Prop} (hB : mi 18 0 = nI B) (hB6 : B ≤ 6) (hR4 : R ≤ 4) (hl : SLp mi 28 29 30 31 32 B R allP L T) (hrm : mi 27 (12 + r) = nI (rm r)) (hrm6 : rm r < 100) (hs : MaS mi B 6 wo A) (hI : InvR B R L T rm wo A) (hr : r < R)
    (hq0 : (cnt (inn wo r) B = rm r ∨ ∀ b, b < B → wdO L T b r = true → (A r b = true ∧ ¬ wo b = some r) ∨ wo b = some r) → Q 0 mi ml z)
    (hq1 : ∀ mi' wo' A', Fr [56, 57, 58, 59] mi mi' → MaS mi' B 6 wo' A' → InvR B R L T rm wo' A' → NR A' = NR A + 1 → Q 1 mi' ml z) : CI l (h + 4) m_Ma_asksOne [.ref 55, .ref 17, .int (nI r)] mi ml z Q := by
  have hin4 : vp_in (nI r) 4 := in_nI (by omega) (by decide)
  have hcl := cnt_le (inn wo r) B
  have hle := hI.1.2.2.1 r hr
  refine t_Ma_asksOne_17 mi ml z _ ⟨hin4, t_Sc_roomOf_17 _ _ _ _ ⟨in_addL (a := 12) (by omega) (by decide), ?_⟩⟩
  rw [addL_cl 12 r (by omega), cl_nI (show r < 2 ^ 31 by omega), hrm, (hs.2.1 r (by omega)).2, nI_leI (by omega) (by omega)]
  refine ⟨fun c => hq0 (Or.inl (by omega)), fun c => c_Ma_nextBeck_17 hB hB6 hR4 hl hs hr ?_⟩
  cases e : lst (fun b => wdO L T b r && !A r b) (fun b => - prO T b r) B with
  | none =>
    refine ⟨fun q => absurd rfl q, fun _ => hq0 (Or.inr (fun b hb hw => ?_))⟩
    have := lst_none e b hb
    by_cases q : wo b = some r
    · exact Or.inr q
    · exact Or.inl ⟨by simpa [hw] using this, q⟩
  | some b =>
    obtain ⟨hb, hp, hmax⟩ := lst_max e
    simp at hp
    have hbest : ∀ b', b' < B → wdO L T b' r = true → A r b' = false → prO T b' r ≤ prO T b r := fun b' hb' hw ha => hmax b' hb' (by simp [hw, ha])
    have hin : vp_in (nI b) 6 := in_nI (by omega) (by decide)
    have hin6 : vp_in (nI r) 6 := in_nI (by omega) (by decide)
    rw [show oI (some b) = nI b from rfl]
    refine ⟨fun _ => ⟨hin6, hin6, hin, ?_⟩, fun q => absurd q (neg1_ne (by omega))⟩
    rw [cl_nI (show b < 2 ^ 31 by omega)]
    have F1 : Fr [56, 57, 58, 59] mi (up mi 59 r (mi 59 r ||| ((1 : Int32) <<< (nI b &&& 31)))) := (Fr_up _ _ _ _).weak (by simp)
    have hs1 := hs.ask (b := r) (r := b) (by omega) (by decide) (by omega)
    generalize up mi 59 r (mi 59 r ||| ((1 : Int32) <<< (nI b &&& 31))) = m1 at F1 hs1 ⊢
    have hlm : SLp m1 28 29 30 31 32 B R allP L T := hl.f5 F1 (by decide)
    rw [hs1.1 b (by omega)]
    have hN := NR_ask (A := A) (show b < 6 by omega) (show r < 4 by omega) hp.2
    cases ew : wo b with
    | none =>
      refine ⟨fun q => absurd rfl q, fun _ => c_Ma_comeIn hB6 hs1 hb (by omega) ew (fun m2 F2 hs2 => hq1 m2 _ _ (F1.step (F2.weak (by simp))) hs2 (hI.go hB6 hR4 hb hr hp.1 hp.2 hbest (by omega) (fun r0 q => by rw [ew] at q; cases q)) hN)⟩
    | some r0 =>
      have hr0 := (hI.1.1 b r0 hb ew).1
      rw [show oI (some r0) = nI r0 from rfl]
      refine ⟨fun _ => c_Sc_likesBetter_17 hB6 hR4 hlm hb hr hr0 ⟨fun q => ?_, fun q => ?_⟩, fun q => absurd q (neg1_ne (by omega))⟩
      · rw [bI_0, decide_eq_false_iff_not] at q
        have hne : ¬ r0 = r := fun k => by
          subst k
          have := hI.2 b r0 hb ew
          rw [this] at hp
          cases hp.2
        have hne2 : ¬ pbO L b r0 = pbO L b r := fun k => hne (pbO_inj (by omega) (by omega) k)
        exact hq1 m1 _ _ F1 hs1 (hI.no hB6 hb hr hp.1 hp.2 hbest ew (by omega)) hN
      · rw [bI_0, decide_eq_false_iff_not, Decidable.not_not] at q
        refine c_Ma_goOff hB6 hs1 hb (by omega) ew (fun m2 F2 hs2 => c_Ma_comeIn hB6 hs2 hb (by omega) (by simp) (fun m3 F3 hs3 => ?_))
        have ee : (fun i => if i = b then some r else if i = b then none else wo i) = (fun i => if i = b then some r else wo i) := by
          funext i
          by_cases k : i = b
          · simp [k]
          · simp [k]
        rw [ee] at hs3
        exact hq1 m3 _ _ ((F1.step (F2.weak (by simp))).step (F3.weak (by simp))) hs3 (hI.go hB6 hR4 hb hr hp.1 hp.2 hbest (by omega) (fun r1 k => by rw [ew] at k; cases k; exact q)) hN
theorem c_Ma_bestForRivers_17 {l : Launch} {h : Nat} {mi : TMi} {ml : TMl} {z : Nat} {B R : Nat} {L T : Nat → Nat → Int} {rm : Nat → Nat} {Q : TMi → TMl → Nat → Prop} (hB : mi 18 0 = nI B) (hB6 : B ≤ 6) (hR : mi 18 1 = nI R) (hR4 : R ≤ 4) (hl : SLp mi 28 29 30 31 32 B R allP L T) (hrm : ∀ r, r < R → mi 27 (12 + r) = nI (rm r) ∧ rm r < 100)
    (hq : ∀ mi' wo, Fr [56, 57, 58, 59] mi mi' → isW (mi' 56) B R wo → Worst B R L T rm wo → Q mi' ml z) : CV l (h + 5) m_Ma_bestForRivers [.ref 55, .ref 17] mi ml z Q := by
  refine t_Ma_bestForRivers_17 mi ml z (c_Ma_clear (B := B) (n := 6) (fun m0 F0 hs0 => ?_))
  have fin : ∀ m wo A, Fr [56, 57, 58, 59] mi m → MaS m B 6 wo A → InvR B R L T rm wo A → (∀ r, r < R → cnt (inn wo r) B = rm r ∨ ∀ b, b < B → wdO L T b r = true → (A r b = true ∧ ¬ wo b = some r) ∨ wo b = some r) → Q m ml z :=
    fun m wo A F hs hI he => hq m wo F (fun b hb => ⟨hs.1 b (by omega), fun r e => (hI.1.1 b r hb e).1⟩) (hI.1.end hB6 he)
  refine loop (P := fun i => ∀ m wo A v, Fr [56, 57, 58, 59] mi m → MaS m B 6 wo A → InvR B R L T rm wo A → (v = 0 → ∀ r, r < R → cnt (inn wo r) B = rm r ∨ ∀ b, b < B → wdO L T b r = true → (A r b = true ∧ ¬ wo b = some r) ∨ wo b = some r) → (¬ v = 0 → i ≤ NR A) → Ev l (h + 5) m_Ma_bestForRivers 8 ([.ref 55, .ref 17, .int v, .int (nI i), .retAddr 0], [], st m ml z) (qV Q)) 25 (fun m wo A v F hs hI h0 h1 => ?_) (fun i hi ih m wo A v F hs hI h0 h1 => ?_) m0 _ _ 1 F0 hs0 (InvR_0 _ _ _ _ _) (fun q => absurd q (by decide)) (fun _ => Nat.zero_le _)
  · by_cases q : v = 0
    · exact t_Ma_bestForRivers_17_8 m ml z _ _ ⟨fun _ => fin m wo A F hs hI (h0 q), fun c => absurd (by decide) c⟩
    · have := h1 q
      have := NR_le A
      omega
  · refine t_Ma_bestForRivers_17_8 m ml z _ _ ⟨fun c => absurd c (fun q => absurd ((nI_ltI (a := 24) (b := i) (by decide) (by omega)).mp q) (by omega)), fun _ => ⟨fun q => fin m wo A F hs hI (h0 q), fun q => ?_⟩⟩
    have hiN := h1 q
    refine loop (P := fun j => ∀ m' wo' A' v', Fr [56, 57, 58, 59] mi m' → MaS m' B 6 wo' A' → InvR B R L T rm wo' A' → ((v' = 0 ∧ i ≤ NR A' ∧ ∀ r, r < j → cnt (inn wo' r) B = rm r ∨ ∀ b, b < B → wdO L T b r = true → (A' r b = true ∧ ¬ wo' b = some r) ∨ wo' b = some r) ∨ (v' = 1 ∧ i + 1 ≤ NR A')) → Ev l (h + 5) m_Ma_bestForRivers 23 ([.ref 55, .ref 17, .int v', .int (nI i), .int (nI j)], [], st m' ml z) (qV Q)) R (fun m' wo' A' v' F' hs' hI' hv => ?_) (fun j hj ihj m' wo' A' v' F' hs' hI' hv => ?_) m wo A 0 F hs hI (Or.inl ⟨rfl, hiN, fun r hr => absurd hr (Nat.not_lt_zero _)⟩)
    · refine t_Ma_bestForRivers_17_23 m' ml z _ _ _ ⟨fun _ => ?_, fun c => absurd (le_at (by rw [F' 18 (by decide)]; exact hR) (by omega)) c⟩
      rw [nI_1]
      refine ih m' wo' A' v' F' hs' hI' (fun k => ?_) (fun k => ?_)
      · rcases hv with hv | hv
        · exact hv.2.2
        · rw [hv.1] at k; exact absurd k (by decide)
      · rcases hv with hv | hv
        · exact absurd hv.1 k
        · exact hv.2
    · refine t_Ma_bestForRivers_17_23 m' ml z _ _ _ ⟨fun c => absurd c (ge_no (by rw [F' 18 (by decide)]; exact hR) (by omega) hj), fun _ => ?_⟩
      rw [nI_1]
      refine c_Ma_asksOne_17 (rm := rm) (by rw [F' 18 (by decide)]; exact hB) hB6 hR4 (hl.f5 F' (by decide)) (by rw [F' 27 (by decide)]; exact (hrm j hj).1) (hrm j hj).2 hs' hI' hj (fun he => ?_) (fun m2 wo2 A2 F2 hs2 hI2 hN => ?_)
      · rw [Int32.or_zero]
        refine ihj m' wo' A' v' F' hs' hI' (hv.imp (fun k => ⟨k.1, k.2.1, fun r hr => ?_⟩) id)
        by_cases e : r = j
        · subst e; exact he
        · exact k.2.2 r (by omega)
      · have ev : v' ||| 1 = 1 := by
          rcases hv with k | k
          · rw [k.1]; decide
          · rw [k.1]; decide
        rw [ev]
        refine ihj m2 wo2 A2 1 (F'.step F2) hs2 hI2 (Or.inr ⟨rfl, ?_⟩)
        rcases hv with k | k
        · omega
        · omega
theorem c_Ma_nextBeck_33 {l : Launch} {h : Nat} {mi : TMi} {ml : TMl} {z : Nat} {B R r : Nat} {L T : Nat → Nat → Int} {wo : Nat → Option Nat} {A : Nat → Nat → Bool} {Q : Int32 → TMi → TMl → Nat → Prop} (hB : mi 18 0 = nI B) (hB6 : B ≤ 6) (hR4 : R ≤ 4) (hl : SLp mi 35 36 37 38 39 B R allP L T) (hs : MaS mi B 6 wo A) (hr : r < R)
    (hq : Q (oI (lst (fun b => wdO L T b r && !A r b) (fun b => - prO T b r) B)) mi ml z) : CI l (h + 3) m_Ma_nextBeck [.ref 55, .ref 33, .int (nI r)] mi ml z Q := by
  refine t_Ma_nextBeck_33 mi ml z _ ?_
  refine loop (P := fun i => Ev l (h + 3) m_Ma_nextBeck 5 ([.ref 55, .ref 33, .int (nI r), .int (oI (lst (fun b => wdO L T b r && !A r b) (fun b => - prO T b r) i)), .int (nI i), .retAddr 0], [], st mi ml z) (qI Q)) B ?_ (fun i hi ih => ?_)
  · exact t_Ma_nextBeck_33_5 mi ml z _ _ _ ⟨fun _ => hq, fun c => absurd (le_at hB (by omega)) c⟩
  · refine t_Ma_nextBeck_33_5 mi ml z _ _ _ ⟨fun c => absurd c (ge_no hB (by omega) hi), fun _ => c_Sc_bothWould_33 hB6 hR4 hl hi hr ⟨fun c => ?_, fun c => ⟨in_nI (by omega) (by decide), ?_⟩⟩⟩
    · rw [bI_0] at c
      have e : lst (fun b => wdO L T b r && !A r b) (fun b => - prO T b r) (i + 1) = lst (fun b => wdO L T b r && !A r b) (fun b => - prO T b r) i := by simp [lst, c]
      rw [e] at ih
      rw [nI_1]
      exact ih
    · rw [bI_0] at c
      have c' : wdO L T i r = true := by simpa using c
      rw [cl_nI (by omega), hs.2.2 r (by omega), sr_tb (enc_lt (A r) 6) (by omega), enc_tb (A r) 6 i (by omega)]
      refine ⟨fun c1 => ?_, fun c1 => ?_⟩
      · have c1' : A r i = true := by simpa using c1
        have e : lst (fun b => wdO L T b r && !A r b) (fun b => - prO T b r) (i + 1) = lst (fun b => wdO L T b r && !A r b) (fun b => - prO T b r) i := by simp [lst, c1']
        rw [e] at ih
        rw [nI_1]
        exact ih
      · cases e : lst (fun b => wdO L T b r && !A r b) (fun b => - prO T b r) i with
        | none =>
          have e2 : lst (fun b => wdO L T b r && !A r b) (fun b => - prO T b r) (i + 1) = some i := by simp [lst, c', c1, e]
          rw [e2] at ih
          rw [nI_1]
          exact ⟨fun _ => ih, fun q => absurd rfl q⟩
        | some m =>
          have hm := (lst_lt e).1
          refine ⟨fun q => absurd q (neg1_ne (by omega)), fun _ => c_Sc_takesBetter_33 hB6 hR4 hl hi hr (show m < B by omega) ?_⟩
          rw [nI_1]
          have e2 : lst (fun b => wdO L T b r && !A r b) (fun b => - prO T b r) (i + 1) = if prO T m r < prO T i r then some i else some m := by
            have : (- prO T i r < - prO T m r) = (prO T m r < prO T i r) := by apply propext; omega
            simp only [lst, c', c1, e, Bool.and_true, Bool.not_false, if_true, this]
          rw [e2] at ih
          refine ⟨fun q => ?_, fun q => ?_⟩
          · rw [bI_0, decide_eq_false_iff_not] at q
            rw [if_neg q] at ih
            exact ih
          · rw [bI_0, decide_eq_false_iff_not, Decidable.not_not] at q
            rw [if_pos q] at ih
            exact ih
theorem c_Ma_asksOne_33 {l : Launch} {h : Nat} {mi : TMi} {ml : TMl} {z : Nat} {B R r : Nat} {L T : Nat → Nat → Int} {rm : Nat → Nat} {wo : Nat → Option Nat} {A : Nat → Nat → Bool} {Q : Int32 → TMi → TMl → Nat → Prop} (hB : mi 18 0 = nI B) (hB6 : B ≤ 6) (hR4 : R ≤ 4) (hl : SLp mi 35 36 37 38 39 B R allP L T) (hrm : mi 34 (12 + r) = nI (rm r)) (hrm6 : rm r < 100) (hs : MaS mi B 6 wo A) (hI : InvR B R L T rm wo A) (hr : r < R)
    (hq0 : (cnt (inn wo r) B = rm r ∨ ∀ b, b < B → wdO L T b r = true → (A r b = true ∧ ¬ wo b = some r) ∨ wo b = some r) → Q 0 mi ml z)
    (hq1 : ∀ mi' wo' A', Fr [56, 57, 58, 59] mi mi' → MaS mi' B 6 wo' A' → InvR B R L T rm wo' A' → NR A' = NR A + 1 → Q 1 mi' ml z) : CI l (h + 4) m_Ma_asksOne [.ref 55, .ref 33, .int (nI r)] mi ml z Q := by
  have hin4 : vp_in (nI r) 4 := in_nI (by omega) (by decide)
  have hcl := cnt_le (inn wo r) B
  have hle := hI.1.2.2.1 r hr
  refine t_Ma_asksOne_33 mi ml z _ ⟨hin4, t_Sc_roomOf_33 _ _ _ _ ⟨in_addL (a := 12) (by omega) (by decide), ?_⟩⟩
  rw [addL_cl 12 r (by omega), cl_nI (show r < 2 ^ 31 by omega), hrm, (hs.2.1 r (by omega)).2, nI_leI (by omega) (by omega)]
  refine ⟨fun c => hq0 (Or.inl (by omega)), fun c => c_Ma_nextBeck_33 hB hB6 hR4 hl hs hr ?_⟩
  cases e : lst (fun b => wdO L T b r && !A r b) (fun b => - prO T b r) B with
  | none =>
    refine ⟨fun q => absurd rfl q, fun _ => hq0 (Or.inr (fun b hb hw => ?_))⟩
    have := lst_none e b hb
    by_cases q : wo b = some r
    · exact Or.inr q
    · exact Or.inl ⟨by simpa [hw] using this, q⟩
  | some b =>
    obtain ⟨hb, hp, hmax⟩ := lst_max e
    simp at hp
    have hbest : ∀ b', b' < B → wdO L T b' r = true → A r b' = false → prO T b' r ≤ prO T b r := fun b' hb' hw ha => hmax b' hb' (by simp [hw, ha])
    have hin : vp_in (nI b) 6 := in_nI (by omega) (by decide)
    have hin6 : vp_in (nI r) 6 := in_nI (by omega) (by decide)
    rw [show oI (some b) = nI b from rfl]
    refine ⟨fun _ => ⟨hin6, hin6, hin, ?_⟩, fun q => absurd q (neg1_ne (by omega))⟩
    rw [cl_nI (show b < 2 ^ 31 by omega)]
    have F1 : Fr [56, 57, 58, 59] mi (up mi 59 r (mi 59 r ||| ((1 : Int32) <<< (nI b &&& 31)))) := (Fr_up _ _ _ _).weak (by simp)
    have hs1 := hs.ask (b := r) (r := b) (by omega) (by decide) (by omega)
    generalize up mi 59 r (mi 59 r ||| ((1 : Int32) <<< (nI b &&& 31))) = m1 at F1 hs1 ⊢
    have hlm : SLp m1 35 36 37 38 39 B R allP L T := hl.f5 F1 (by decide)
    rw [hs1.1 b (by omega)]
    have hN := NR_ask (A := A) (show b < 6 by omega) (show r < 4 by omega) hp.2
    cases ew : wo b with
    | none =>
      refine ⟨fun q => absurd rfl q, fun _ => c_Ma_comeIn hB6 hs1 hb (by omega) ew (fun m2 F2 hs2 => hq1 m2 _ _ (F1.step (F2.weak (by simp))) hs2 (hI.go hB6 hR4 hb hr hp.1 hp.2 hbest (by omega) (fun r0 q => by rw [ew] at q; cases q)) hN)⟩
    | some r0 =>
      have hr0 := (hI.1.1 b r0 hb ew).1
      rw [show oI (some r0) = nI r0 from rfl]
      refine ⟨fun _ => c_Sc_likesBetter_33 hB6 hR4 hlm hb hr hr0 ⟨fun q => ?_, fun q => ?_⟩, fun q => absurd q (neg1_ne (by omega))⟩
      · rw [bI_0, decide_eq_false_iff_not] at q
        have hne : ¬ r0 = r := fun k => by
          subst k
          have := hI.2 b r0 hb ew
          rw [this] at hp
          cases hp.2
        have hne2 : ¬ pbO L b r0 = pbO L b r := fun k => hne (pbO_inj (by omega) (by omega) k)
        exact hq1 m1 _ _ F1 hs1 (hI.no hB6 hb hr hp.1 hp.2 hbest ew (by omega)) hN
      · rw [bI_0, decide_eq_false_iff_not, Decidable.not_not] at q
        refine c_Ma_goOff hB6 hs1 hb (by omega) ew (fun m2 F2 hs2 => c_Ma_comeIn hB6 hs2 hb (by omega) (by simp) (fun m3 F3 hs3 => ?_))
        have ee : (fun i => if i = b then some r else if i = b then none else wo i) = (fun i => if i = b then some r else wo i) := by
          funext i
          by_cases k : i = b
          · simp [k]
          · simp [k]
        rw [ee] at hs3
        exact hq1 m3 _ _ ((F1.step (F2.weak (by simp))).step (F3.weak (by simp))) hs3 (hI.go hB6 hR4 hb hr hp.1 hp.2 hbest (by omega) (fun r1 k => by rw [ew] at k; cases k; exact q)) hN
theorem c_Ma_bestForRivers_33 {l : Launch} {h : Nat} {mi : TMi} {ml : TMl} {z : Nat} {B R : Nat} {L T : Nat → Nat → Int} {rm : Nat → Nat} {Q : TMi → TMl → Nat → Prop} (hB : mi 18 0 = nI B) (hB6 : B ≤ 6) (hR : mi 18 1 = nI R) (hR4 : R ≤ 4) (hl : SLp mi 35 36 37 38 39 B R allP L T) (hrm : ∀ r, r < R → mi 34 (12 + r) = nI (rm r) ∧ rm r < 100)
    (hq : ∀ mi' wo, Fr [56, 57, 58, 59] mi mi' → isW (mi' 56) B R wo → Worst B R L T rm wo → Q mi' ml z) : CV l (h + 5) m_Ma_bestForRivers [.ref 55, .ref 33] mi ml z Q := by
  refine t_Ma_bestForRivers_33 mi ml z (c_Ma_clear (B := B) (n := 6) (fun m0 F0 hs0 => ?_))
  have fin : ∀ m wo A, Fr [56, 57, 58, 59] mi m → MaS m B 6 wo A → InvR B R L T rm wo A → (∀ r, r < R → cnt (inn wo r) B = rm r ∨ ∀ b, b < B → wdO L T b r = true → (A r b = true ∧ ¬ wo b = some r) ∨ wo b = some r) → Q m ml z :=
    fun m wo A F hs hI he => hq m wo F (fun b hb => ⟨hs.1 b (by omega), fun r e => (hI.1.1 b r hb e).1⟩) (hI.1.end hB6 he)
  refine loop (P := fun i => ∀ m wo A v, Fr [56, 57, 58, 59] mi m → MaS m B 6 wo A → InvR B R L T rm wo A → (v = 0 → ∀ r, r < R → cnt (inn wo r) B = rm r ∨ ∀ b, b < B → wdO L T b r = true → (A r b = true ∧ ¬ wo b = some r) ∨ wo b = some r) → (¬ v = 0 → i ≤ NR A) → Ev l (h + 5) m_Ma_bestForRivers 8 ([.ref 55, .ref 33, .int v, .int (nI i), .retAddr 0], [], st m ml z) (qV Q)) 25 (fun m wo A v F hs hI h0 h1 => ?_) (fun i hi ih m wo A v F hs hI h0 h1 => ?_) m0 _ _ 1 F0 hs0 (InvR_0 _ _ _ _ _) (fun q => absurd q (by decide)) (fun _ => Nat.zero_le _)
  · by_cases q : v = 0
    · exact t_Ma_bestForRivers_33_8 m ml z _ _ ⟨fun _ => fin m wo A F hs hI (h0 q), fun c => absurd (by decide) c⟩
    · have := h1 q
      have := NR_le A
      omega
  · refine t_Ma_bestForRivers_33_8 m ml z _ _ ⟨fun c => absurd c (fun q => absurd ((nI_ltI (a := 24) (b := i) (by decide) (by omega)).mp q) (by omega)), fun _ => ⟨fun q => fin m wo A F hs hI (h0 q), fun q => ?_⟩⟩
    have hiN := h1 q
    refine loop (P := fun j => ∀ m' wo' A' v', Fr [56, 57, 58, 59] mi m' → MaS m' B 6 wo' A' → InvR B R L T rm wo' A' → ((v' = 0 ∧ i ≤ NR A' ∧ ∀ r, r < j → cnt (inn wo' r) B = rm r ∨ ∀ b, b < B → wdO L T b r = true → (A' r b = true ∧ ¬ wo' b = some r) ∨ wo' b = some r) ∨ (v' = 1 ∧ i + 1 ≤ NR A')) → Ev l (h + 5) m_Ma_bestForRivers 23 ([.ref 55, .ref 33, .int v', .int (nI i), .int (nI j)], [], st m' ml z) (qV Q)) R (fun m' wo' A' v' F' hs' hI' hv => ?_) (fun j hj ihj m' wo' A' v' F' hs' hI' hv => ?_) m wo A 0 F hs hI (Or.inl ⟨rfl, hiN, fun r hr => absurd hr (Nat.not_lt_zero _)⟩)
    · refine t_Ma_bestForRivers_33_23 m' ml z _ _ _ ⟨fun _ => ?_, fun c => absurd (le_at (by rw [F' 18 (by decide)]; exact hR) (by omega)) c⟩
      rw [nI_1]
      refine ih m' wo' A' v' F' hs' hI' (fun k => ?_) (fun k => ?_)
      · rcases hv with hv | hv
        · exact hv.2.2
        · rw [hv.1] at k; exact absurd k (by decide)
      · rcases hv with hv | hv
        · exact absurd hv.1 k
        · exact hv.2
    · refine t_Ma_bestForRivers_33_23 m' ml z _ _ _ ⟨fun c => absurd c (ge_no (by rw [F' 18 (by decide)]; exact hR) (by omega) hj), fun _ => ?_⟩
      rw [nI_1]
      refine c_Ma_asksOne_33 (rm := rm) (by rw [F' 18 (by decide)]; exact hB) hB6 hR4 (hl.f5 F' (by decide)) (by rw [F' 34 (by decide)]; exact (hrm j hj).1) (hrm j hj).2 hs' hI' hj (fun he => ?_) (fun m2 wo2 A2 F2 hs2 hI2 hN => ?_)
      · rw [Int32.or_zero]
        refine ihj m' wo' A' v' F' hs' hI' (hv.imp (fun k => ⟨k.1, k.2.1, fun r hr => ?_⟩) id)
        by_cases e : r = j
        · subst e; exact he
        · exact k.2.2 r (by omega)
      · have ev : v' ||| 1 = 1 := by
          rcases hv with k | k
          · rw [k.1]; decide
          · rw [k.1]; decide
        rw [ev]
        refine ihj m2 wo2 A2 1 (F'.step F2) hs2 hI2 (Or.inr ⟨rfl, ?_⟩)
        rcases hv with k | k
        · omega
        · omega
