/-! ===== the reference's match ===== -/
def RH (mi : TMi) (B R : Nat) (L T : Nat → Nat → Int) (rm : Nat → Nat) : Prop := mi 120 1 = nI B ∧ B ≤ 6 ∧ mi 120 2 = nI R ∧ R ≤ 4 ∧ Lk mi 126 = L ∧ Lk mi 127 = T ∧ bdM B R L ∧ bdM B R T ∧ ∀ r, r < R → mi 120 (41 + r) = nI (rm r) ∧ rm r < 100
theorem Lk_eq {mi mi' : TMi} {a : Nat} (h : mi' a = mi a) : Lk mi' a = Lk mi a := by funext b r; simp [Lk, h]
theorem RH.fr {mi mi' : TMi} {B R : Nat} {L T : Nat → Nat → Int} {rm : Nat → Nat} (h : RH mi B R L T rm) (e1 : mi' 120 = mi 120) (e2 : mi' 126 = mi 126) (e3 : mi' 127 = mi 127) : RH mi' B R L T rm := by
  obtain ⟨h1, h2, h3, h4, h5, h6, h7, h8, h9⟩ := h
  refine ⟨by rw [e1]; exact h1, h2, by rw [e1]; exact h3, h4, by rw [Lk_eq e2]; exact h5, by rw [Lk_eq e3]; exact h6, h7, h8, fun r hr => by rw [e1]; exact h9 r hr⟩
theorem RH.b6 {mi : TMi} {B R : Nat} {L T : Nat → Nat → Int} {rm : Nat → Nat} (h : RH mi B R L T rm) : bdA mi 126 B R := by
  obtain ⟨h1, h2, h3, h4, h5, h6, h7, h8, h9⟩ := h
  intro b r hb hr
  rw [h5]; exact h7 b r hb hr
theorem RH.b7 {mi : TMi} {B R : Nat} {L T : Nat → Nat → Int} {rm : Nat → Nat} (h : RH mi B R L T rm) : bdA mi 127 B R := by
  obtain ⟨h1, h2, h3, h4, h5, h6, h7, h8, h9⟩ := h
  intro b r hb hr
  rw [h6]; exact h8 b r hb hr
theorem c_R_begins {l : Launch} {h : Nat} {mi : TMi} {ml : TMl} {z : Nat} {Q : TMi → TMl → Nat → Prop} (hq : ∀ mi', Fr [129, 131] mi mi' → (∀ b, b < 6 → mi' 129 b = -1 ∧ mi' 131 b = 0) → Q mi' ml z) : CV l (h + 1) m_R_begins [.ref 119] mi ml z Q := by
  refine t_R_begins mi ml z ?_
  refine loop (P := fun i => ∀ m, Fr [129, 131] mi m → (∀ k, k < i → m 129 k = -1 ∧ m 131 k = 0) → Ev l (h + 1) m_R_begins 2 ([.ref 119, .int (nI i)], [], st m ml z) (qV Q)) 6 (fun m F hk => ?_) (fun i hi ih m F hk => ?_) mi (Fr.refl _ _) (fun k hk => absurd hk (Nat.not_lt_zero _))
  · exact t_R_begins_2 m ml z _ ⟨fun _ => hq m F hk, fun c => absurd (by decide) c⟩
  · refine t_R_begins_2 m ml z _ ⟨fun c => absurd c (ge_no (N := 6) rfl (by decide) hi), fun _ => ⟨in_nI hi (by decide), in_nI hi (by decide), ?_⟩⟩
    rw [cl_nI (by omega), nI_1]
    refine ih _ (F.step (((Fr_up _ _ _ _).weak (by simp)).step ((Fr_up _ _ _ _).weak (by simp)))) (fun k hk' => ?_)
    rw [up_ne _ _ _ (show 129 ≠ 131 by decide)]
    by_cases q : k = i
    · subst q; rw [up_at, up_at]; exact ⟨rfl, rfl⟩
    · rw [up_nk _ _ _ q, up_nk _ _ _ q, up_ne _ _ _ (show 131 ≠ 129 by decide)]; exact hk k (by omega)
theorem c_R_asksRiver {l : Launch} {h : Nat} {mi : TMi} {ml : TMl} {z : Nat} {B R b : Nat} {L T : Nat → Nat → Int} {rm : Nat → Nat} {X : Nat → Bool} {Q : Int32 → TMi → TMl → Nat → Prop} (hH : RH mi B R L T rm) (hb : b < B) (hX : mi 131 b = nI (enc X 4))
    (hq : Q (oI (lst (fun r => wdO L T b r && !X r) (fun r => - pbO L b r) R)) mi ml z) : CI l (h + 2) m_R_asksRiver [.ref 119, .int (nI b)] mi ml z Q := by
  have hd6 := hH.b6
  obtain ⟨hB, hB6, hR, hR4, hL, hT, _, _, _⟩ := hH
  refine t_R_asksRiver mi ml z _ ?_
  refine loop (P := fun i => Ev l (h + 2) m_R_asksRiver 4 ([.ref 119, .int (nI b), .int (oI (lst (fun r => wdO L T b r && !X r) (fun r => - pbO L b r) i)), .int (nI i)], [], st mi ml z) (qI Q)) R ?_ (fun i hi ih => ?_)
  · exact t_R_asksRiver_4 mi ml z _ _ _ ⟨fun _ => hq, fun c => absurd (le_at hR (by omega)) c⟩
  · refine t_R_asksRiver_4 mi ml z _ _ _ ⟨fun c => absurd c (ge_no hR (by omega) hi), fun _ => ⟨in_nI (by omega) (by decide), ?_⟩⟩
    have h16 := enc_lt X 4
    rw [cl_nI (by omega), hX]
    refine c_R_isIn (by omega) (by omega) ?_
    rw [enc_tb X 4 i (by omega), nI_1]
    refine ⟨fun c => ?_, fun c => c_R_wouldBoth (by omega) (by omega) ⟨fun c1 => ?_, fun c1 => ?_⟩⟩
    · rw [bI_0] at c
      have c' : X i = true := by simpa using c
      have e : lst (fun r => wdO L T b r && !X r) (fun r => - pbO L b r) (i + 1) = lst (fun r => wdO L T b r && !X r) (fun r => - pbO L b r) i := by simp [lst, c']
      rw [e] at ih
      exact ih
    · rw [hL, hT, bI_0] at c1
      have e : lst (fun r => wdO L T b r && !X r) (fun r => - pbO L b r) (i + 1) = lst (fun r => wdO L T b r && !X r) (fun r => - pbO L b r) i := by simp [lst, c1]
      rw [e] at ih
      exact ih
    · rw [hL, hT, bI_0] at c1
      rw [bI_0] at c
      have c1' : wdO L T b i = true := by simpa using c1
      cases e : lst (fun r => wdO L T b r && !X r) (fun r => - pbO L b r) i with
      | none =>
        have e2 : lst (fun r => wdO L T b r && !X r) (fun r => - pbO L b r) (i + 1) = some i := by simp [lst, c1', c, e]
        rw [e2] at ih
        exact ⟨fun _ => ih, fun q => absurd rfl q⟩
      | some m =>
        have hm := (lst_lt e).1
        refine ⟨fun q => absurd q (neg1_ne (by omega)), fun _ => c_R_likesMore hB6 hR4 hd6 hb (show m < R by omega) hi ?_⟩
        rw [hL]
        have e2 : lst (fun r => wdO L T b r && !X r) (fun r => - pbO L b r) (i + 1) = if pbO L b m < pbO L b i then some i else some m := by
          have : (- pbO L b i < - pbO L b m) = (pbO L b m < pbO L b i) := by apply propext; omega
          simp only [lst, c1', c, e, Bool.and_true, Bool.not_false, if_true, this]
        rw [e2] at ih
        refine ⟨fun q => ?_, fun q => ?_⟩
        · rw [bI_0, decide_eq_false_iff_not] at q
          rw [if_neg q] at ih
          exact ih
        · rw [bI_0, decide_eq_false_iff_not, Decidable.not_not] at q
          rw [if_pos q] at ih
          exact ih
def RfB (mi : TMi) (wo : Nat → Option Nat) (A : Nat → Nat → Bool) : Prop := ∀ b, b < 6 → mi 129 b = oI (wo b) ∧ mi 131 b = nI (enc (fun r => A b r && !decide (wo b = some r)) 4)
theorem NA_le (A : Nat → Nat → Bool) : NA A ≤ 24 := by
  have k : ∀ x, cnt (A x) 4 ≤ 4 := fun x => cnt_le _ _
  have k0 := k 0; have k1 := k 1; have k2 := k 2; have k3 := k 3; have k4 := k 4; have k5 := k 5
  simp only [NA, smr]
  omega
theorem RfB.in_ {mi : TMi} {wo : Nat → Option Nat} {A : Nat → Nat → Bool} {b r : Nat} (h : RfB mi wo A) (hn : wo b = none) (hx : A b r = false) : RfB (up mi 129 b (nI r)) (fun i => if i = b then some r else wo i) (askA A b r) := by
  intro x hx6
  rw [up_ne _ _ _ (show 131 ≠ 129 by decide), (h x hx6).2]
  by_cases q : x = b
  · subst q
    rw [up_at]
    refine ⟨by simp [oI], ?_⟩
    congr 1
    refine enc_congr (fun y _ => ?_)
    by_cases q2 : y = r
    · subst q2; simp [hx]
    · simp [askA, hn, q2, Ne.symm q2]
  · rw [up_nk _ _ _ q]
    refine ⟨by simp only [q, if_false]; exact (h x hx6).1, ?_⟩
    congr 1
    exact enc_congr (fun y _ => by simp [askA, q])
theorem RfB.out {mi : TMi} {wo : Nat → Option Nat} {A : Nat → Nat → Bool} {b r o : Nat} (h : RfB mi (fun i => if i = b then some r else wo i) (askA A b r)) (ho6 : o < 6) (hr : r < 4) (ho : o = b ∨ wo o = some r) (hA : ∀ r, wo o = some r → A o r = true) : RfB (up (up mi 129 o (-1)) 131 o ((up mi 129 o (-1)) 131 o ||| ((1 : Int32) <<< (nI r &&& 31)))) (fun i => if i = o then none else if i = b then some r else wo i) (askA A b r) := by
  intro x hx6
  rw [up_ne _ _ _ (show 129 ≠ 131 by decide), up_ne _ _ _ (show 131 ≠ 129 by decide)]
  have hx := h x hx6
  by_cases q : x = o
  · subst q
    rw [up_at, up_at, hx.2, enc_set (by decide) hr]
    refine ⟨by simp [oI], ?_⟩
    congr 1
    refine enc_congr (fun y _ => ?_)
    by_cases q2 : y = r
    · subst q2
      by_cases q3 : x = b
      · simp [askA, q3]
      · have := ho.resolve_left q3
        simp [askA, q3, hA _ this]
    · by_cases q3 : x = b
      · simp [q3, q2, Ne.symm q2]
      · have := ho.resolve_left q3
        simp [q3, q2, this, Ne.symm q2]
  · rw [up_nk _ _ _ q, up_nk _ _ _ q, up_ne _ _ _ (show 131 ≠ 129 by decide)]
    simp only [q, if_false]
    exact hx
theorem c_R_laysByBecks {l : Launch} {h : Nat} {mi : TMi} {ml : TMl} {z : Nat} {B R d : Nat} {L T : Nat → Nat → Int} {rm : Nat → Nat} {Q : TMi → TMl → Nat → Prop} (hH : RH mi B R L T rm) (hd : d < 64)
    (hq : ∀ mi' wo, Fr [129, 131] mi mi' → isW (mi' 129) B R wo → Best B R (dryL (fun b => !tb d b) L) T rm wo → Q mi' ml z) : CV l (h + 3) m_R_laysByBecks [.ref 119, .int (nI d)] mi ml z Q := by
  refine t_R_laysByBecks mi ml z _ (c_R_begins (fun m0 F0 hs0 => ?_))
  have hB6 := hH.2.1
  have hR4 := hH.2.2.2.1
  have fin : ∀ m wo A, Fr [129, 131] mi m → RfB m wo A → InvB B R (dryL (fun b => !tb d b) L) T rm wo A → (∀ b, b < B → wo b = none → ∀ r, r < R → wdO (dryL (fun b => !tb d b) L) T b r = true → A b r = true) → Q m ml z :=
    fun m wo A F hs hI he => hq m wo F (fun b hb => ⟨(hs b (by omega)).1, fun r e => (hI.1.1 b r hb e).1⟩) (hI.1.end (fun b r hb hr hn hw => ⟨he b hb hn r hr hw, by rw [hn]; simp⟩))
  refine loop (P := fun i => ∀ m wo A v, Fr [129, 131] mi m → RfB m wo A → InvB B R (dryL (fun b => !tb d b) L) T rm wo A → (v = 0 → ∀ b, b < B → wo b = none → ∀ r, r < R → wdO (dryL (fun b => !tb d b) L) T b r = true → A b r = true) → (¬ v = 0 → i ≤ NA A) → Ev l (h + 3) m_R_laysByBecks 6 ([.ref 119, .int (nI d), .int v, .retAddr 0, .retAddr 0, .retAddr 0], [], st m ml z) (qV Q)) 25 (fun m wo A v F hs hI h0 h1 => ?_) (fun i hi ih m wo A v F hs hI h0 h1 => ?_) m0 (fun _ => none) (fun _ _ => false) 1 F0 (fun b hb => ⟨(hs0 b hb).1, by rw [(hs0 b hb).2]; simp only [Bool.false_and]; rw [enc_none]; rfl⟩) (InvB_0 _ _ _ _ _) (fun q => absurd q (by decide)) (fun _ => Nat.zero_le _)
  · by_cases q : v = 0
    · exact t_R_laysByBecks_6 m ml z _ _ ⟨fun _ => fin m wo A F hs hI (h0 q), fun c => absurd q c⟩
    · have := h1 q
      have := NA_le A
      omega
  · refine t_R_laysByBecks_6 m ml z _ _ ⟨fun q => fin m wo A F hs hI (h0 q), fun q => ?_⟩
    have hiN := h1 q
    refine loop (P := fun j => ∀ m' wo' A' v', Fr [129, 131] mi m' → RfB m' wo' A' → InvB B R (dryL (fun b => !tb d b) L) T rm wo' A' → ((v' = 0 ∧ i ≤ NA A' ∧ ∀ b, b < j → wo' b = none → ∀ r, r < R → wdO (dryL (fun b => !tb d b) L) T b r = true → A' b r = true) ∨ (v' = 1 ∧ i + 1 ≤ NA A')) → Ev l (h + 3) m_R_laysByBecks 14 ([.ref 119, .int (nI d), .int v', .int (nI j), .retAddr 0, .retAddr 0], [], st m' ml z) (qV Q)) B (fun m' wo' A' v' F' hs' hI' hv => ?_) (fun j hj ihj m' wo' A' v' F' hs' hI' hv => ?_) m wo A 0 F hs hI (Or.inl ⟨rfl, hiN, fun r hr => absurd hr (Nat.not_lt_zero _)⟩)
    · have hHm := hH.fr (mi' := m') (F' 120 (by decide)) (F' 126 (by decide)) (F' 127 (by decide))
      refine t_R_laysByBecks_14 m' ml z _ _ _ ⟨fun _ => ?_, fun c => absurd (le_at hHm.1 (by omega)) c⟩
      refine ih m' wo' A' v' F' hs' hI' (fun k => ?_) (fun k => ?_)
      · rcases hv with hv | hv
        · exact hv.2.2
        · rw [hv.1] at k; exact absurd k (by decide)
      · rcases hv with hv | hv
        · exact absurd hv.1 k
        · exact hv.2
    · have hHm := hH.fr (mi' := m') (F' 120 (by decide)) (F' 126 (by decide)) (F' 127 (by decide))
      have hin : vp_in (nI j) 6 := in_nI (by omega) (by decide)
      have skip : ((¬ wo' j = none) ∨ (∀ r, r < R → wdO (dryL (fun b => !tb d b) L) T j r = true → A' j r = true)) → Ev l (h + 3) m_R_laysByBecks 14 ([.ref 119, .int (nI d), .int v', .int (nI j + 1), .retAddr 0, .retAddr 0], [], st m' ml z) (qV Q) := fun hk => by
        rw [nI_1]
        refine ihj m' wo' A' v' F' hs' hI' (hv.imp (fun k => ⟨k.1, k.2.1, fun b hb hn r hr hw => ?_⟩) id)
        by_cases e : b = j
        · subst e
          rcases hk with hk | hk
          · exact absurd hn hk
          · exact hk r hr hw
        · exact k.2.2 b (by omega) hn r hr hw
      have hgo : ∀ m2 wo2 A2, Fr [129, 131] m' m2 → RfB m2 wo2 A2 → InvB B R (dryL (fun b => !tb d b) L) T rm wo2 A2 → NA A2 = NA A' + 1 → Ev l (h + 3) m_R_laysByBecks 14 ([.ref 119, .int (nI d), .int 1, .int (nI j + 1), .retAddr 0, .retAddr 0], [], st m2 ml z) (qV Q) := fun m2 wo2 A2 F2 hs2 hI2 hN => by
        rw [nI_1]
        refine ihj m2 wo2 A2 1 (F'.step F2) hs2 hI2 (Or.inr ⟨rfl, ?_⟩)
        rcases hv with k | k <;> omega
      refine t_R_laysByBecks_14 m' ml z _ _ _ ⟨fun c => absurd c (ge_no hHm.1 (by omega) hj), fun _ => ⟨hin, ?_⟩⟩
      rw [cl_nI (show j < 2 ^ 31 by omega), (hs' j (by omega)).1]
      cases ew : wo' j with
      | some r0 => exact ⟨fun _ => skip (Or.inl (by rw [ew]; simp)), fun q => absurd q (neg1_ne (by have := (hI'.1.1 j r0 hj ew).1; omega))⟩
      | none =>
        refine ⟨fun q => absurd rfl q, fun _ => c_R_isIn (by omega) (by omega) ⟨fun c => ?_, fun c => ?_⟩⟩
        · rw [bI_0] at c
          have hS : (fun b => !tb d b) j = true := by simp [c]
          have eX : m' 131 j = nI (enc (A' j) 4) := by
            rw [(hs' j (by omega)).2, ew]
            congr 1
            exact enc_congr (fun y _ => by simp)
          refine c_R_asksRiver hHm hj eX ?_
          cases e : lst (fun r => wdO L T j r && !A' j r) (fun r => - pbO L j r) R with
          | none =>
            refine ⟨fun q => absurd rfl q, fun _ => skip (Or.inr (fun r hr hw => ?_))⟩
            rw [wd_on hS] at hw
            have := lst_none e r hr
            simpa [hw] using this
          | some r =>
            obtain ⟨hr, hp, hmax⟩ := lst_max e
            simp at hp
            have hw' : wdO (dryL (fun b => !tb d b) L) T j r = true := by rw [wd_on hS]; exact hp.1
            have hbest : ∀ r', r' < R → wdO (dryL (fun b => !tb d b) L) T j r' = true → A' j r' = false → pbO (dryL (fun b => !tb d b) L) j r' ≤ pbO (dryL (fun b => !tb d b) L) j r := fun r' hr' hw ha => by
              rw [wd_on hS] at hw
              rw [pb_on hS, pb_on hS]
              exact hmax r' hr' (by simp [hw, ha])
            have hN := NA_ask (A := A') (show j < 6 by omega) (show r < 4 by omega) hp.2
            rw [show oI (some r) = nI r from rfl]
            refine ⟨fun _ => ⟨hin, ?_⟩, fun q => absurd q (neg1_ne (by omega))⟩
            have F1 : Fr [129, 131] m' (up m' 129 j (nI r)) := (Fr_up _ _ _ _).weak (by simp)
            have hs1 := hs'.in_ ew hp.2
            generalize up m' 129 j (nI r) = m1 at F1 hs1 ⊢
            have hH1 := hHm.fr (mi' := m1) (F1 120 (by decide)) (F1 126 (by decide)) (F1 127 (by decide))
            have hiw : isW (m1 129) B R (fun i => if i = j then some r else wo' i) := fun b hb => ⟨(hs1 b (by omega)).1, fun r1 e1 => by
              by_cases q : b = j
              · simp [q] at e1; omega
              · simp [q] at e1; exact (hI'.1.1 b r1 hb e1).1⟩
            have eE : enc (fun b => m1 129 b == nI r) B = enc (inn (fun i => if i = j then some r else wo' i) r) B := isW_enc hiw hR4 (by omega)
            refine c_R_becksBy hH1.1 hB6 ?_
            rw [eE]
            refine c_R_bitsOf (enc_64 _ hB6) ⟨in_addL (a := 41) (by omega) (by decide), ?_⟩
            have hcl := cnt_le (inn (fun i => if i = j then some r else wo' i) r) B
            have hrm := hH1.2.2.2.2.2.2.2.2 r hr
            rw [pop_enc _ hB6, addL_cl 41 r (by omega), hrm.1, nI_ltI (by omega) (by omega)]
            refine ⟨fun c1 => c_R_becksBy hH1.1 hB6 ?_, fun c1 => hgo m1 _ _ F1 hs1 (hI'.in_ hj hr ew hw' hp.2 hbest (by omega)) hN⟩
            rw [eE]
            refine c_R_leastOf hH1.1 hB6 hR4 hH1.b7 hr (enc_64 _ hB6) ?_
            rw [lst_enc, hH1.2.2.2.2.2.1]
            obtain ⟨o, ho⟩ := lst_some (p := inn (fun i => if i = j then some r else wo' i) r) (f := fun b' => prO T b' r) (B := B) (by omega)
            have ho0 := lst_lt ho
            have ho1 : o = j ∨ wo' o = some r := by
              by_cases q : o = j
              · exact Or.inl q
              · have := ho0.2; simp [inn, q] at this; exact Or.inr this
            rw [ho, show oI (some o) = nI o from rfl]
            have hino : vp_in (nI o) 6 := in_nI (by omega) (by decide)
            refine ⟨hino, hino, hino, ?_⟩
            have hs2 := hs1.out (show o < 6 by omega) (by omega) ho1 (fun r1 => hI'.2 o r1 ho0.1)
            have F2 : Fr [129, 131] m1 (up (up m1 129 o (-1)) 131 o ((up m1 129 o (-1)) 131 o ||| ((1 : Int32) <<< (nI r &&& 31)))) := ((Fr_up _ _ _ _).weak (by simp)).step ((Fr_up _ _ _ _).weak (by simp))
            rw [cl_nI (show o < 2 ^ 31 by omega)]
            exact hgo _ _ _ (F1.step F2) hs2 (hI'.out hB6 hR4 hj hr ew hw' hp.2 hbest (by omega) ho) hN
        · rw [bI_0] at c
          exact skip (Or.inr (fun r hr hw => by rw [wd_off (S := fun b => !tb d b) (by simpa using c)] at hw; cases hw))
