/-! ===== the class's match: going off, the next river ===== -/
theorem c_Ma_goOff {l : Launch} {h : Nat} {mi : TMi} {ml : TMl} {z : Nat} {B n b r : Nat} {wo : Nat → Option Nat} {A : Nat → Nat → Bool} {Q : TMi → TMl → Nat → Prop} (hB6 : B ≤ 6) (hs : MaS mi B n wo A) (hb : b < B) (hr : r < 4) (hn : wo b = some r)
    (hq : ∀ mi', Fr [56, 57, 58] mi mi' → MaS mi' B n (fun i => if i = b then none else wo i) A → Q mi' ml z) : CV l (h + 1) m_Ma_goOff [.ref 55, .int (nI b), .int (nI r)] mi ml z Q := by
  obtain ⟨h1, h2, h3⟩ := hs
  refine t_Ma_goOff mi ml z _ _ ?_
  rw [cl_nI (show b < 2 ^ 31 by omega), cl_nI (show r < 2 ^ 31 by omega)]
  have hin4 : vp_in (nI r) 4 := in_nI hr (by decide)
  have e57 : (up mi 56 b (-1)) 57 r = nI (enc (inn wo r) B) := by rw [up_ne _ _ _ (by decide)]; exact (h2 r hr).1
  rw [e57, enc_clr hB6 hb, inn_clr]
  have e58 : (up (up mi 56 b (-1)) 57 r (nI (enc (inn (fun i => if i = b then none else wo i) r) B))) 58 r = nI (cnt (inn wo r) B) := by rw [up_ne _ _ _ (by decide), up_ne _ _ _ (by decide)]; exact (h2 r hr).2
  have hcl := cnt_clr (p := inn wo r) hb (by simp [inn, hn])
  rw [inn_clr] at hcl
  have hle := cnt_le (inn wo r) B
  rw [e58, ← hcl, sub1 (by omega) (by omega), Nat.add_sub_cancel]
  refine ⟨in_nI (by omega) (by decide), hin4, hin4, hin4, hin4, hq _ ?_ ⟨fun b' hb' => ?_, fun r' hr' => ?_, fun k hk => ?_⟩⟩
  · exact (((Fr_up _ _ _ _).weak (by simp)).step ((Fr_up _ _ _ _).weak (by simp))).step ((Fr_up _ _ _ _).weak (by simp))
  · rw [up_ne _ _ _ (by decide), up_ne _ _ _ (by decide)]
    by_cases q : b' = b
    · subst q; rw [up_at]; simp [oI]
    · rw [up_nk _ _ _ q]; simp only [q, if_false]; exact h1 b' hb'
  · rw [up_ne _ _ _ (show 57 ≠ 58 by decide)]
    by_cases q : r' = r
    · subst q; rw [up_at, up_at]; exact ⟨rfl, rfl⟩
    · have e : inn (fun i => if i = b then none else wo i) r' = inn wo r' := by
        funext x
        by_cases k : x = b
        · subst k; simp [inn, hn, Ne.symm q]
        · simp [inn, k]
      rw [up_nk _ _ _ q, up_nk _ _ _ q, up_ne _ _ _ (show 57 ≠ 56 by decide), up_ne _ _ _ (show 58 ≠ 57 by decide), up_ne _ _ _ (show 58 ≠ 56 by decide), e]
      exact h2 r' hr'
  · rw [up_ne _ _ _ (by decide), up_ne _ _ _ (by decide), up_ne _ _ _ (by decide)]; exact h3 k hk
theorem andn : ∀ a, a < 16 → ∀ b, b < 16 → nI a &&& (nI b ^^^ (-1)) = nI (a - (a &&& b)) := by decide +kernel
theorem andn_tb : ∀ a, a < 16 → ∀ b, b < 16 → ∀ r, r < 4 → tb (a - (a &&& b)) r = (tb a r && !tb b r) := by decide +kernel
theorem srz : ∀ m, m < 16 → ∀ r, r < 5 → (nI m >>> (nI r &&& 31) = 0) = (m / 2 ^ r = 0) := by
  have : ∀ m, m < 16 → ∀ r, r < 5 → decide (nI m >>> (nI r &&& 31) = 0) = decide (m / 2 ^ r = 0) := by decide +kernel
  intro m hm r hr
  have h := this m hm r hr
  exact propext (decide_eq_decide.mp h)
theorem tb_hi : ∀ m, m < 16 → ∀ r, r < 5 → m / 2 ^ r = 0 → ∀ r', r' < 4 → r ≤ r' → tb m r' = false := by decide +kernel
theorem lst_ext {p : Nat → Bool} {f : Nat → Int} {n : Nat} : ∀ {k : Nat}, (∀ r, n ≤ r → r < n + k → p r = false) → lst p f (n + k) = lst p f n
  | 0, _ => rfl
  | k + 1, h => by
    rw [show n + (k + 1) = (n + k) + 1 by omega]
    simp only [lst, h (n + k) (by omega) (by omega)]
    exact lst_ext (fun r h1 h2 => h r h1 (by omega))
theorem c_Ma_nextRiver_17 {l : Launch} {h : Nat} {mi : TMi} {ml : TMl} {z : Nat} {B R b : Nat} {L T : Nat → Nat → Int} {wo : Nat → Option Nat} {A : Nat → Nat → Bool} {Q : Int32 → TMi → TMl → Nat → Prop} (hB6 : B ≤ 6) (hR4 : R ≤ 4) (hl : SLp mi 28 29 30 31 32 B R allP L T) (hs : MaS mi B 4 wo A) (hb : b < B)
    (hq : Q (oI (lst (fun r => decide (r < R) && wdO L T b r && !A b r) (fun r => - pbO L b r) 4)) mi ml z) : CI l (h + 2) m_Ma_nextRiver [.ref 55, .ref 17, .int (nI b)] mi ml z Q := by
  have hin : vp_in (nI b) 6 := in_nI (by omega) (by decide)
  refine t_Ma_nextRiver_17 mi ml z _ ⟨hin, hin, t_B_pair _ _ _ _ _ ?_⟩
  rw [cl_nI (by omega), hl.mu hb, hs.2.2 b (by omega), show nI b * 4 + 0 = nI (4 * b) from mul4 b 0]
  have h1 : enc (fun r => wdO L T b r) R < 16 := Nat.lt_of_lt_of_le (enc_lt _ R) (pow16 hR4)
  have h2 : enc (A b) 4 < 16 := enc_lt (A b) 4
  rw [andn _ h1 _ h2]
  have hp : ∀ r, r < 4 → tb (enc (fun r => wdO L T b r) R - (enc (fun r => wdO L T b r) R &&& enc (A b) 4)) r = (decide (r < R) && wdO L T b r && !A b r) := fun r hr => by
    rw [andn_tb _ h1 _ h2 r hr, enc_tb (A b) 4 r hr]
    by_cases q : r < R
    · rw [enc_tb _ R r q]; simp [q]
    · rw [enc_hi _ R r (by omega)]; simp [q]
  have hm : enc (fun r => wdO L T b r) R - (enc (fun r => wdO L T b r) R &&& enc (A b) 4) < 16 := Nat.lt_of_le_of_lt (Nat.sub_le _ _) h1
  rw [← lst_congr (p := fun r => tb (enc (fun r => wdO L T b r) R - (enc (fun r => wdO L T b r) R &&& enc (A b) 4)) r) (f := fun r => - pbO L b r) (n := 4) hp (fun _ _ => rfl)] at hq
  have hpR : ∀ r, r < 4 → tb (enc (fun r => wdO L T b r) R - (enc (fun r => wdO L T b r) R &&& enc (A b) 4)) r = true → r < R := fun r hr e => by
    rw [hp r hr] at e
    simp at e
    exact e.1.1
  generalize enc (fun r => wdO L T b r) R - (enc (fun r => wdO L T b r) R &&& enc (A b) 4) = c at hm hq hpR
  refine loop (P := fun i => ∀ v6, (∀ q, lst (fun r => tb c r) (fun r => - pbO L b r) i = some q → v6 = mi 30 (4 * b + q)) → Ev l (h + 2) m_Ma_nextRiver 32 ([.retAddr 0, .ref 17, .retAddr 0, .int (nI c), .int (nI (4 * b)), .int (oI (lst (fun r => tb c r) (fun r => - pbO L b r) i)), .int v6, .int (nI i)], [], st mi ml z) (qI Q)) 4 (fun v6 hv => ?_) (fun i hi ih v6 hv => ?_) 0 (fun q hq' => by simp [lst] at hq')
  · exact t_Ma_nextRiver_17_32 mi ml z _ _ _ _ _ ⟨fun _ => hq, fun _ => ⟨fun _ => hq, fun c => absurd (by decide) c⟩⟩
  · refine t_Ma_nextRiver_17_32 mi ml z _ _ _ _ _ ?_
    have ei : (nI (4 * b) + nI i).toNatClampNeg = 4 * b + i := add_cl _ _ (by omega)
    have hin2 : vp_in (nI (4 * b) + nI i) 24 := in_add (by omega) (by decide)
    rw [srz c hm i (by omega), sr_tbR c hm i hi, ei]
    refine ⟨fun c0 => ?_, fun _ => ⟨fun c0 => absurd c0 (ge_no (N := 4) rfl (by decide) hi), fun _ => ⟨fun c1 => ?_, fun c1 => ⟨fun c2 => ⟨hin2, ?_⟩, fun c2 => ⟨hin2, fun c3 => ?_, fun c3 => ⟨hin2, ?_⟩⟩⟩⟩⟩⟩
    · have e := lst_ext (p := fun r => tb c r) (f := fun r => - pbO L b r) (n := i) (k := 4 - i) (fun r h1 h2 => tb_hi c hm i (by omega) c0 r (by omega) h1)
      rw [show i + (4 - i) = 4 by omega] at e
      rw [e] at hq
      exact hq
    · have e : lst (fun r => tb c r) (fun r => - pbO L b r) (i + 1) = lst (fun r => tb c r) (fun r => - pbO L b r) i := by simp [lst, c1]
      have := ih v6 (fun q hq' => hv q (by rw [← e]; exact hq'))
      rw [e] at this
      rw [nI_1]
      exact this
    · have c1' : tb c i = true := by simpa using c1
      cases e : lst (fun r => tb c r) (fun r => - pbO L b r) i with
      | some q => rw [e] at c2; exact absurd c2 (neg1_ne (by have := (lst_lt e).1; omega))
      | none =>
        have e2 : lst (fun r => tb c r) (fun r => - pbO L b r) (i + 1) = some i := by simp [lst, c1', e]
        have := ih (mi 30 (4 * b + i)) (fun q hq' => by rw [e2] at hq'; cases hq'; rfl)
        rw [e2] at this
        rw [nI_1]
        exact this
    · have c1' : tb c i = true := by simpa using c1
      cases e : lst (fun r => tb c r) (fun r => - pbO L b r) i with
      | none => rw [e] at c2; exact absurd rfl c2
      | some q =>
        have hq6 := lst_lt e
        have hqR := hpR q (by omega) hq6.2
        have hiR := hpR i hi c1'
        have hv' := hv q e
        rw [hv', Int32.le_iff_toInt_le, (hl.1 b i hb hiR trivial).2.2.1, (hl.1 b q hb hqR trivial).2.2.1] at c3
        have e2 : lst (fun r => tb c r) (fun r => - pbO L b r) (i + 1) = some q := by simp only [lst, c1', if_true, e]; rw [if_neg (by omega)]
        have := ih v6 (fun q' hq' => by rw [e2] at hq'; cases hq'; exact hv')
        rw [e2] at this
        rw [nI_1]
        exact this
    · have c1' : tb c i = true := by simpa using c1
      cases e : lst (fun r => tb c r) (fun r => - pbO L b r) i with
      | none => rw [e] at c2; exact absurd rfl c2
      | some q =>
        have hq6 := lst_lt e
        have hqR := hpR q (by omega) hq6.2
        have hiR := hpR i hi c1'
        have hv' := hv q e
        rw [hv', Int32.le_iff_toInt_le, (hl.1 b i hb hiR trivial).2.2.1, (hl.1 b q hb hqR trivial).2.2.1] at c3
        have e2 : lst (fun r => tb c r) (fun r => - pbO L b r) (i + 1) = some i := by simp only [lst, c1', if_true, e]; rw [if_pos (by omega)]
        have := ih (mi 30 (4 * b + i)) (fun q' hq' => by rw [e2] at hq'; cases hq'; rfl)
        rw [e2] at this
        rw [nI_1]
        exact this
theorem c_Ma_nextRiver_33 {l : Launch} {h : Nat} {mi : TMi} {ml : TMl} {z : Nat} {B R b : Nat} {L T : Nat → Nat → Int} {wo : Nat → Option Nat} {A : Nat → Nat → Bool} {Q : Int32 → TMi → TMl → Nat → Prop} (hB6 : B ≤ 6) (hR4 : R ≤ 4) (hl : SLp mi 35 36 37 38 39 B R allP L T) (hs : MaS mi B 4 wo A) (hb : b < B)
    (hq : Q (oI (lst (fun r => decide (r < R) && wdO L T b r && !A b r) (fun r => - pbO L b r) 4)) mi ml z) : CI l (h + 2) m_Ma_nextRiver [.ref 55, .ref 33, .int (nI b)] mi ml z Q := by
  have hin : vp_in (nI b) 6 := in_nI (by omega) (by decide)
  refine t_Ma_nextRiver_33 mi ml z _ ⟨hin, hin, t_B_pair _ _ _ _ _ ?_⟩
  rw [cl_nI (by omega), hl.mu hb, hs.2.2 b (by omega), show nI b * 4 + 0 = nI (4 * b) from mul4 b 0]
  have h1 : enc (fun r => wdO L T b r) R < 16 := Nat.lt_of_lt_of_le (enc_lt _ R) (pow16 hR4)
  have h2 : enc (A b) 4 < 16 := enc_lt (A b) 4
  rw [andn _ h1 _ h2]
  have hp : ∀ r, r < 4 → tb (enc (fun r => wdO L T b r) R - (enc (fun r => wdO L T b r) R &&& enc (A b) 4)) r = (decide (r < R) && wdO L T b r && !A b r) := fun r hr => by
    rw [andn_tb _ h1 _ h2 r hr, enc_tb (A b) 4 r hr]
    by_cases q : r < R
    · rw [enc_tb _ R r q]; simp [q]
    · rw [enc_hi _ R r (by omega)]; simp [q]
  have hm : enc (fun r => wdO L T b r) R - (enc (fun r => wdO L T b r) R &&& enc (A b) 4) < 16 := Nat.lt_of_le_of_lt (Nat.sub_le _ _) h1
  rw [← lst_congr (p := fun r => tb (enc (fun r => wdO L T b r) R - (enc (fun r => wdO L T b r) R &&& enc (A b) 4)) r) (f := fun r => - pbO L b r) (n := 4) hp (fun _ _ => rfl)] at hq
  have hpR : ∀ r, r < 4 → tb (enc (fun r => wdO L T b r) R - (enc (fun r => wdO L T b r) R &&& enc (A b) 4)) r = true → r < R := fun r hr e => by
    rw [hp r hr] at e
    simp at e
    exact e.1.1
  generalize enc (fun r => wdO L T b r) R - (enc (fun r => wdO L T b r) R &&& enc (A b) 4) = c at hm hq hpR
  refine loop (P := fun i => ∀ v6, (∀ q, lst (fun r => tb c r) (fun r => - pbO L b r) i = some q → v6 = mi 37 (4 * b + q)) → Ev l (h + 2) m_Ma_nextRiver 32 ([.retAddr 0, .ref 33, .retAddr 0, .int (nI c), .int (nI (4 * b)), .int (oI (lst (fun r => tb c r) (fun r => - pbO L b r) i)), .int v6, .int (nI i)], [], st mi ml z) (qI Q)) 4 (fun v6 hv => ?_) (fun i hi ih v6 hv => ?_) 0 (fun q hq' => by simp [lst] at hq')
  · exact t_Ma_nextRiver_33_32 mi ml z _ _ _ _ _ ⟨fun _ => hq, fun _ => ⟨fun _ => hq, fun c => absurd (by decide) c⟩⟩
  · refine t_Ma_nextRiver_33_32 mi ml z _ _ _ _ _ ?_
    have ei : (nI (4 * b) + nI i).toNatClampNeg = 4 * b + i := add_cl _ _ (by omega)
    have hin2 : vp_in (nI (4 * b) + nI i) 24 := in_add (by omega) (by decide)
    rw [srz c hm i (by omega), sr_tbR c hm i hi, ei]
    refine ⟨fun c0 => ?_, fun _ => ⟨fun c0 => absurd c0 (ge_no (N := 4) rfl (by decide) hi), fun _ => ⟨fun c1 => ?_, fun c1 => ⟨fun c2 => ⟨hin2, ?_⟩, fun c2 => ⟨hin2, fun c3 => ?_, fun c3 => ⟨hin2, ?_⟩⟩⟩⟩⟩⟩
    · have e := lst_ext (p := fun r => tb c r) (f := fun r => - pbO L b r) (n := i) (k := 4 - i) (fun r h1 h2 => tb_hi c hm i (by omega) c0 r (by omega) h1)
      rw [show i + (4 - i) = 4 by omega] at e
      rw [e] at hq
      exact hq
    · have e : lst (fun r => tb c r) (fun r => - pbO L b r) (i + 1) = lst (fun r => tb c r) (fun r => - pbO L b r) i := by simp [lst, c1]
      have := ih v6 (fun q hq' => hv q (by rw [← e]; exact hq'))
      rw [e] at this
      rw [nI_1]
      exact this
    · have c1' : tb c i = true := by simpa using c1
      cases e : lst (fun r => tb c r) (fun r => - pbO L b r) i with
      | some q => rw [e] at c2; exact absurd c2 (neg1_ne (by have := (lst_lt e).1; omega))
      | none =>
        have e2 : lst (fun r => tb c r) (fun r => - pbO L b r) (i + 1) = some i := by simp [lst, c1', e]
        have := ih (mi 37 (4 * b + i)) (fun q hq' => by rw [e2] at hq'; cases hq'; rfl)
        rw [e2] at this
        rw [nI_1]
        exact this
    · have c1' : tb c i = true := by simpa using c1
      cases e : lst (fun r => tb c r) (fun r => - pbO L b r) i with
      | none => rw [e] at c2; exact absurd rfl c2
      | some q =>
        have hq6 := lst_lt e
        have hqR := hpR q (by omega) hq6.2
        have hiR := hpR i hi c1'
        have hv' := hv q e
        rw [hv', Int32.le_iff_toInt_le, (hl.1 b i hb hiR trivial).2.2.1, (hl.1 b q hb hqR trivial).2.2.1] at c3
        have e2 : lst (fun r => tb c r) (fun r => - pbO L b r) (i + 1) = some q := by simp only [lst, c1', if_true, e]; rw [if_neg (by omega)]
        have := ih v6 (fun q' hq' => by rw [e2] at hq'; cases hq'; exact hv')
        rw [e2] at this
        rw [nI_1]
        exact this
    · have c1' : tb c i = true := by simpa using c1
      cases e : lst (fun r => tb c r) (fun r => - pbO L b r) i with
      | none => rw [e] at c2; exact absurd rfl c2
      | some q =>
        have hq6 := lst_lt e
        have hqR := hpR q (by omega) hq6.2
        have hiR := hpR i hi c1'
        have hv' := hv q e
        rw [hv', Int32.le_iff_toInt_le, (hl.1 b i hb hiR trivial).2.2.1, (hl.1 b q hb hqR trivial).2.2.1] at c3
        have e2 : lst (fun r => tb c r) (fun r => - pbO L b r) (i + 1) = some i := by simp only [lst, c1', if_true, e]; rw [if_pos (by omega)]
        have := ih (mi 37 (4 * b + i)) (fun q' hq' => by rw [e2] at hq'; cases hq'; rfl)
        rw [e2] at this
        rw [nI_1]
        exact this
