/-! ===== the next token, both ===== -/
noncomputable def tkK (tp : Nat → Nat) (n q : Nat) : Nat := if n ≤ q then 22 else if isL (tp q) = true then wdOf tp q (ru isL tp n q - q) else if isD (tp q) = true then (if ru isD tp n q - q ≤ 3 then 21 else 23) else if isG (tp q) = true then tp q else 23
def tkE (tp : Nat → Nat) (n q : Nat) : Nat := if n ≤ q then q else if isL (tp q) = true then ru isL tp n q else if isD (tp q) = true then ru isD tp n q else q + 1
def tkV (tp : Nat → Nat) (n q : Nat) : Nat := dv tp q (min 3 (ru isD tp n q - q))
def tq (tp : Nat → Nat) (n p : Nat) : Nat := ru isS tp n p
theorem tq_le {tp : Nat → Nat} {n p : Nat} (h : p ≤ n) : p ≤ tq tp n p ∧ tq tp n p ≤ n := ⟨ru_ge _ _ _ _ _ rfl, ru_le _ _ _ _ _ rfl h⟩
theorem isG_lt : ∀ b, b < 256 → isG b = true → b < 94 ∧ 23 < b := by decide +kernel
theorem tkE_le {tp : Nat → Nat} {n q : Nat} (h : q ≤ n) : tkE tp n q ≤ n ∧ (q < n → q < tkE tp n q) := by
  unfold tkE
  by_cases c : n ≤ q
  · rw [if_pos c]; omega
  · rw [if_neg c]
    by_cases c1 : isL (tp q) = true
    · rw [if_pos c1, ru_on (by omega) c1]
      have h1 := ru_ge isL tp n _ (q + 1) rfl
      have h2 := ru_le isL tp n _ (q + 1) rfl (by omega)
      omega
    · rw [if_neg c1]
      by_cases c2 : isD (tp q) = true
      · rw [if_pos c2, ru_on (by omega) c2]
        have h1 := ru_ge isD tp n _ (q + 1) rfl
        have h2 := ru_le isD tp n _ (q + 1) rfl (by omega)
        omega
      · rw [if_neg c2]; omega
theorem tkK_lt {tp : Nat → Nat} {n q : Nat} (hb : ∀ j, j < n → tp j < 256) : tkK tp n q < 94 ∧ (tkK tp n q = 22 ↔ n ≤ q) := by
  unfold tkK
  by_cases c : n ≤ q
  · rw [if_pos c]; omega
  · rw [if_neg c]
    by_cases c1 : isL (tp q) = true
    · rw [if_pos c1]
      have := wdOf_le tp q (ru isL tp n q - q)
      omega
    · rw [if_neg c1]
      by_cases c2 : isD (tp q) = true
      · rw [if_pos c2]; split <;> omega
      · rw [if_neg c2]
        by_cases c3 : isG (tp q) = true
        · rw [if_pos c3]
          have := isG_lt _ (hb q (by omega)) c3
          omega
        · rw [if_neg c3]; omega
theorem dv_lt {tp : Nat → Nat} {k : Nat} : ∀ i, (∀ j, j < i → isD (tp (k + j)) = true) → dv tp k i < 10 ^ i
  | 0, _ => Nat.lt_succ_self 0
  | i + 1, h => by
    have h1 := dv_lt (tp := tp) (k := k) i (fun j hj => h j (by omega))
    have h2 := of_decide_eq_true (show decide (48 ≤ tp (k + i) ∧ tp (k + i) ≤ 57) = true from h i (by omega))
    simp only [dv]
    rw [Nat.pow_succ]
    omega
theorem tkV_lt (tp : Nat → Nat) (n q : Nat) : tkV tp n q < 1000 := by
  unfold tkV
  have h := dv_lt (tp := tp) (k := q) (min 3 (ru isD tp n q - q)) (fun j hj => ru_all isD tp n _ q rfl (q + j) (by omega) (by omega))
  exact Nat.lt_of_lt_of_le h (Nat.pow_le_pow_right (by decide) (show min 3 (ru isD tp n q - q) ≤ 3 by omega))
theorem c_clsC {l : Launch} {h : Nat} {M : TMi} {ml : TMl} {z q n : Nat} {tp : Nat → Nat} {Q : TMi → TMl → Nat → Prop} (hT : TkC M tp n) (h2 : M 12 2 = nI q) (h4 : M 12 4 = nI q) (hqn : q < n)
    (hq : ∀ mi', (∀ a, a ≠ 12 → mi' a = M a) → (∀ s, s ≠ 2 → s ≠ 3 → s ≠ 5 → mi' 12 s = M 12 s) → mi' 12 2 = nI (tkE tp n q) → mi' 12 3 = nI (tkK tp n q) → (tkK tp n q = 21 → mi' 12 5 = nI (tkV tp n q)) → Q mi' ml z) :
    (vp_in (M 12 2) 900) ∧ CI l (h + 5) m_To_isLetter [.int (M 2 ((M 12 2).toNatClampNeg))] M ml z (fun x4 mi4 ml4 z4 => ((x4 = 0 → (vp_in (mi4 12 2) 900) ∧ CI l (h + 5) m_To_isDigit [.int (mi4 2 ((mi4 12 2).toNatClampNeg))] mi4 ml4 z4 (fun x7 mi7 ml7 z7 => ((x7 = 0 → (vp_in (mi7 12 2) 900) ∧ CI l (h + 5) m_To_sign [.int (mi7 2 ((mi7 12 2).toNatClampNeg))] mi7 ml7 z7 (fun x10 mi10 ml10 z10 => Q (up (up mi10 12 3 x10) 12 2 (((up mi10 12 3 x10) 12 2) + 1)) ml10 z10)) ∧ (¬ x7 = 0 → CI l (h + 5) m_To_number [.ref 12] mi7 ml7 z7 (fun x11 mi11 ml11 z11 => Q (up mi11 12 3 x11) ml11 z11))))) ∧ (¬ x4 = 0 → CI l (h + 5) m_To_word [.ref 12] mi4 ml4 z4 (fun x12 mi12 ml12 z12 => Q (up mi12 12 3 x12) ml12 z12)))) := by
  have hn9 := hT.2.1
  obtain ⟨b1, b2⟩ := hT.2.2 q hqn
  have hin : vp_in (M 12 2) 900 := by rw [h2]; exact in_nI (by omega) (by decide)
  refine ⟨hin, ?_⟩
  have eb : M 2 ((M 12 2).toNatClampNeg) = sby (tp q) := by rw [h2, cl_nI (by omega), b1]
  rw [eb]
  refine c_To_isLetter b2 ?_
  rw [bI_0]
  refine ⟨fun c1 => ⟨hin, ?_⟩, fun c1 => ?_⟩
  · rw [eb]
    refine c_To_isDigit b2 ?_
    rw [bI_0]
    refine ⟨fun c2 => ⟨hin, ?_⟩, fun c2 => ?_⟩
    · rw [eb]
      refine c_To_sign b2 ?_
      have eE : tkE tp n q = q + 1 := by unfold tkE; rw [if_neg (by omega), if_neg (by rw [c1]; decide), if_neg (by rw [c2]; decide)]
      have eK : tkK tp n q = if isG (tp q) = true then tp q else 23 := by unfold tkK; rw [if_neg (by omega), if_neg (by rw [c1]; decide), if_neg (by rw [c2]; decide)]
      refine hq _ (fun a ha => by rw [up_ne _ _ _ ha, up_ne _ _ _ ha]) (fun s s2 s3 s5 => by rw [up_nk _ _ _ s2, up_nk _ _ _ s3]) ?_ ?_ (fun e => ?_)
      · rw [up_at, up_nk _ _ _ (by decide), h2, nI_1, eE]
      · rw [up_nk _ _ _ (by decide), up_at, eK]
        split <;> rfl
      · rw [eK] at e
        by_cases c3 : isG (tp q) = true
        · rw [if_pos c3] at e
          have := isG_lt _ b2 c3
          omega
        · rw [if_neg c3] at e; omega
    · rw [Bool.not_eq_false] at c2
      have eE : tkE tp n q = ru isD tp n q := by unfold tkE; rw [if_neg (by omega), if_neg (by rw [c1]; decide), if_pos c2]
      have eK : tkK tp n q = if ru isD tp n q - q ≤ 3 then 21 else 23 := by unfold tkK; rw [if_neg (by omega), if_neg (by rw [c1]; decide), if_pos c2]
      refine c_To_number (n := n) (tp := tp) (k := q) hT h2 (by omega) (fun mi' E1 E2 E3 E4 => ?_)
      refine hq _ (fun a ha => by rw [up_ne _ _ _ ha]; exact E1 a ha) (fun s s2 s3 s5 => by rw [up_nk _ _ _ s3]; exact E2 s s2 s5) ?_ ?_ (fun _ => ?_)
      · rw [up_nk _ _ _ (by decide), E3, eE]
      · rw [up_at, eK]
        split <;> rfl
      · rw [up_nk _ _ _ (by decide), E4]; rfl
  · rw [Bool.not_eq_false] at c1
    have eE : tkE tp n q = ru isL tp n q := by unfold tkE; rw [if_neg (by omega), if_pos c1]
    have eK : tkK tp n q = wdOf tp q (ru isL tp n q - q) := by unfold tkK; rw [if_neg (by omega), if_pos c1]
    have g1 := ru_ge isL tp n _ q rfl
    have g2 := ru_le isL tp n _ q rfl (by omega)
    refine c_wordScan (n := n) (tp := tp) (k := q) hT h2 (by omega) (fun m' E1 E2 E3 => ?_)
    have ed : m' 12 2 - m' 12 4 = nI (ru isL tp n q - q) := by
      rw [E3, E2 4 (by decide), h4, show ru isL tp n q = q + (ru isL tp n q - q) by omega, nI_dif, show q + (ru isL tp n q - q) - q = ru isL tp n q - q by omega]
    rw [ed]
    have hT' : TkC m' tp n := ⟨by rw [E2 1 (by decide)]; exact hT.1, hn9, fun j hj => by rw [E1 2 (by decide)]; exact hT.2.2 j hj⟩
    refine c_word51 (n := n) (tp := tp) (k := q) hT' (by rw [E2 4 (by decide)]; exact h4) (by omega) (fun x hx => ?_)
    have ex : x = wdOf tp q (ru isL tp n q - q) := wOk_uniq hx (wdOf_ok _ _ _)
    refine hq _ (fun a ha => by rw [up_ne _ _ _ ha]; exact E1 a ha) (fun s s2 s3 s5 => by rw [up_nk _ _ _ s3]; exact E2 s s2) ?_ ?_ (fun e => ?_)
    · rw [up_nk _ _ _ (by decide), E3, eE]
    · rw [up_at, eK, ex]
    · have := wdOf_le tp q (ru isL tp n q - q)
      omega
theorem c_adv8 {l : Launch} {h : Nat} {mi : TMi} {ml : TMl} {z p n : Nat} {tp : Nat → Nat} {Q : TMi → TMl → Nat → Prop} (hT : TkC mi tp n) (h2 : mi 12 2 = nI p) (hpn : p ≤ n)
    (hq : ∀ mi', (∀ a, a ≠ 12 → mi' a = mi a) → (∀ s, s ≠ 2 → s ≠ 3 → s ≠ 4 → s ≠ 5 → mi' 12 s = mi 12 s) → mi' 12 2 = nI (tkE tp n (tq tp n p)) → mi' 12 3 = nI (tkK tp n (tq tp n p)) → mi' 12 4 = nI (tq tp n p) → (tkK tp n (tq tp n p) = 21 → mi' 12 5 = nI (tkV tp n (tq tp n p))) → Q mi' ml z) : Ev l (h + 6) m_To_advance 8 ([.ref 12], [], st mi ml z) (qV Q) := by
  have hn9 := hT.2.1
  have key : ∀ f i m, n - (p + i) = f → p + i ≤ n → (∀ a, a ≠ 12 → m a = mi a) → (∀ s, s ≠ 2 → m 12 s = mi 12 s) → m 12 2 = nI (p + i) → ru isS tp n p = ru isS tp n (p + i) → Ev l (h + 6) m_To_advance 8 ([.ref 12], [], st m ml z) (qV Q) := by
    intro f
    induction f with
    | zero =>
      intro i m hf hi E1 E2 E3 E6
      have er : tq tp n p = p + i := by unfold tq; rw [E6, ru_off (by omega)]
      have e1 : m 12 1 = nI n := by rw [E2 1 (by decide)]; exact hT.1
      refine t_To_advance_8 m ml z ⟨fun _ => ⟨fun c => ?_, fun _ => ?_⟩, fun c => absurd (show m 12 1 ≤ m 12 2 by rw [e1, E3]; exact nI_le (by omega) (by omega)) c⟩
      · rw [up_nk _ _ _ (by decide), up_nk _ _ _ (by decide), E3, e1, nI_ltI (by omega) (by omega)] at c
        omega
      · have eE : tkE tp n (p + i) = p + i := by unfold tkE; rw [if_pos (by omega)]
        have eK : tkK tp n (p + i) = 22 := by unfold tkK; rw [if_pos (by omega)]
        rw [er, eE, eK] at hq
        refine hq _ (fun a ha => by rw [up_ne _ _ _ ha, up_ne _ _ _ ha]; exact E1 a ha) (fun s s2 s3 s4 s5 => by rw [up_nk _ _ _ s3, up_nk _ _ _ s4]; exact E2 s s2) ?_ ?_ ?_ (fun e => absurd e (by decide))
        · rw [up_nk _ _ _ (by decide), up_nk _ _ _ (by decide), E3]
        · rw [up_at]; rfl
        · rw [up_nk _ _ _ (by decide), up_at, E3]
    | succ f ih =>
      intro i m hf hi E1 E2 E3 E6
      have hlt : p + i < n := by omega
      obtain ⟨b1, b2⟩ := hT.2.2 (p + i) hlt
      have e1 : m 12 1 = nI n := by rw [E2 1 (by decide)]; exact hT.1
      have eb : m 2 ((m 12 2).toNatClampNeg) = sby (tp (p + i)) := by rw [E3, cl_nI (by omega), E1 2 (by decide), b1]
      have hin : vp_in (m 12 2) 900 := by rw [E3]; exact in_nI (by omega) (by decide)
      have go : isS (tp (p + i)) = true → Ev l (h + 6) m_To_advance 8 ([.ref 12], [], st (up m 12 2 ((m 12 2) + 1)) ml z) (qV Q) := fun c => by
        rw [E3, nI_1]
        exact ih (i + 1) _ (by omega) (by omega) (fun a ha => by rw [up_ne _ _ _ ha]; exact E1 a ha) (fun s s1 => by rw [up_nk _ _ _ s1]; exact E2 s s1) (up_at _ _ _ _) (E6.trans (ru_on hlt c))
      refine t_To_advance_8 m ml z ⟨fun c => ?_, fun _ => ⟨hin, fun c => ?_, fun c => ⟨hin, fun c' => ⟨fun _ => ?_, fun c'' => ?_⟩, fun c' => ?_⟩⟩⟩
      · rw [e1, E3, nI_leI (by omega) (by omega)] at c; omega
      · rw [eb] at c
        exact go ((lf_S _ b2).mp (Or.inl c))
      · have ns : ¬ isS (tp (p + i)) = true := fun k => by
          rw [eb] at c c'
          rcases (lf_S _ b2).mpr k with k | k
          · exact c k
          · exact c' k
        have er : tq tp n p = p + i := by unfold tq; rw [E6, ru_off (fun k => ns k.2)]
        rw [er] at hq
        have M2 : up m 12 4 (m 12 2) 12 2 = nI (p + i) := by rw [up_nk _ _ _ (by decide), E3]
        have M4 : up m 12 4 (m 12 2) 12 4 = nI (p + i) := by rw [up_at, E3]
        have MT : TkC (up m 12 4 (m 12 2)) tp n := ⟨by rw [up_nk _ _ _ (by decide)]; exact e1, hn9, fun j hj => by rw [up_ne _ _ _ (by decide), E1 2 (by decide)]; exact hT.2.2 j hj⟩
        refine c_clsC MT M2 M4 hlt (fun mi' F1 F2 F3 F4 F5 => hq mi' (fun a ha => by rw [F1 a ha, up_ne _ _ _ ha]; exact E1 a ha) (fun s s2 s3 s4 s5 => by rw [F2 s s2 s3 s5, up_nk _ _ _ s4]; exact E2 s s2) F3 F4 ?_ F5)
        rw [F2 4 (by decide) (by decide) (by decide)]; exact M4
      · refine absurd ?_ c''
        rw [up_nk _ _ _ (by decide), up_nk _ _ _ (by decide), E3, e1, nI_ltI (by omega) (by omega)]
        exact hlt
      · rw [eb] at c'
        exact go ((lf_S _ b2).mp (Or.inr c'))
  exact key _ 0 mi rfl (by omega) (fun a ha => rfl) (fun s s1 => rfl) h2 rfl
/-! ===== of the reference ===== -/
def sgn (b : Nat) : Nat → Nat
  | 0 => 25
  | i + 1 => if sB 1 i = nI b then 30 + i else sgn b i
theorem sgn_rk : ∀ b, b < 256 → sgn b 12 = rk (if isG b = true then b else 23) := by decide +kernel
theorem c_seeR {l : Launch} {h : Nat} {m : TMi} {ml : TMl} {z k n : Nat} {tp : Nat → Nat} {Q : Int32 → TMi → TMl → Nat → Prop} (hT : TkR m tp n) (hk : k ≤ 900) (hq : Q (if k < n then nI (tp k) else -1) m ml z) : CI l (h + 1) m_R_see [.ref 119, .int (nI k)] m ml z Q :=
  c_R_see hT.1 hT.2.1 (by omega) (fun j hj => (hT.2.2 j hj).1) hq
theorem c_R_isSmall_m1 {l : Launch} {h : Nat} {mi : TMi} {ml : TMl} {z : Nat} {Q : Int32 → TMi → TMl → Nat → Prop} (hq : Q 0 mi ml z) : CI l (h + 1) m_R_isSmall [.int (-1)] mi ml z Q :=
  t_R_isSmall mi ml z _ ⟨fun _ => hq, fun c => absurd (by decide) c⟩
theorem c_next89 {l : Launch} {h : Nat} {mi : TMi} {ml : TMl} {z k n : Nat} {tp : Nat → Nat} {Q : TMi → TMl → Nat → Prop} (hT : TkR mi tp n) (h6 : mi 119 6 = nI k) (h7 : mi 119 7 = nI k) (hkn : k ≤ n)
    (hq : ∀ mi', (∀ q, q ≠ 119 → mi' q = mi q) → (∀ s, s ≠ 7 → s ≠ 9 → mi' 119 s = mi 119 s) → mi' 119 7 = nI (ru isL tp n k) → mi' 119 9 = nI (rk (wdOf tp k (ru isL tp n k - k))) → Q mi' ml z) : Ev l (h + 6) m_R_next 89 ([.ref 119, .retAddr 0], [], st mi ml z) (qV Q) := by
  have hn9 := hT.2.1
  have key : ∀ f i m, n - (k + i) = f → k + i ≤ n → (∀ q, q ≠ 119 → m q = mi q) → (∀ s, s ≠ 7 → m 119 s = mi 119 s) → m 119 7 = nI (k + i) → ru isL tp n k = ru isL tp n (k + i) → Ev l (h + 6) m_R_next 89 ([.ref 119, .retAddr 0], [], st m ml z) (qV Q) := by
    intro f
    induction f with
    | zero =>
      intro i m hf hi E1 E2 E3 E6
      have er : ru isL tp n k = k + i := by rw [E6, ru_off (by omega)]
      have hTm : TkR m tp n := ⟨by rw [E2 8 (by decide)]; exact hT.1, hn9, fun j hj => by rw [E1 122 (by decide)]; exact hT.2.2 j hj⟩
      refine t_R_next_89 m ml z ?_
      rw [E3]
      refine c_seeR hTm (by omega) ?_
      rw [if_neg (by omega)]
      refine c_R_isSmall_m1 ⟨fun _ => ?_, fun c => absurd rfl c⟩
      refine c_R_keyAt (k := k) (m := i) hTm (by rw [E2 6 (by decide)]; exact h6) E3 hi (fun j hj => ru_all isL tp n _ k rfl (k + j) (by omega) (by omega)) ?_
      rw [er, show k + i - k = i by omega] at hq
      exact hq _ (fun q hq' => by rw [up_ne _ _ _ hq']; exact E1 q hq') (fun s s7 s9 => by rw [up_nk _ _ _ s9]; exact E2 s s7) (by rw [up_nk _ _ _ (by decide), E3]) (up_at _ _ _ _)
    | succ f ih =>
      intro i m hf hi E1 E2 E3 E6
      have hlt : k + i < n := by omega
      have b2 := (hT.2.2 (k + i) hlt).2
      have hTm : TkR m tp n := ⟨by rw [E2 8 (by decide)]; exact hT.1, hn9, fun j hj => by rw [E1 122 (by decide)]; exact hT.2.2 j hj⟩
      refine t_R_next_89 m ml z ?_
      rw [E3]
      refine c_seeR hTm (by omega) ?_
      rw [if_pos hlt]
      refine c_R_isSmall b2 ?_
      rw [bI_0]
      refine ⟨fun c => ?_, fun c => ?_⟩
      · have er : ru isL tp n k = k + i := by rw [E6, ru_off (by rw [c]; simp)]
        refine c_R_keyAt (k := k) (m := i) hTm (by rw [E2 6 (by decide)]; exact h6) E3 hi (fun j hj => ru_all isL tp n _ k rfl (k + j) (by omega) (by omega)) ?_
        rw [er, show k + i - k = i by omega] at hq
        exact hq _ (fun q hq' => by rw [up_ne _ _ _ hq']; exact E1 q hq') (fun s s7 s9 => by rw [up_nk _ _ _ s9]; exact E2 s s7) (by rw [up_nk _ _ _ (by decide), E3]) (up_at _ _ _ _)
      · rw [Bool.not_eq_false] at c
        rw [E3, nI_1]
        exact ih (i + 1) _ (by omega) (by omega) (fun q hq' => by rw [up_ne _ _ _ hq']; exact E1 q hq') (fun s s1 => by rw [up_nk _ _ _ s1]; exact E2 s s1) (up_at _ _ _ _) (E6.trans (ru_on hlt c))
  exact key _ 0 mi rfl (by omega) (fun q hq' => rfl) (fun s s1 => rfl) h7 rfl
theorem c_next254 {l : Launch} {h : Nat} {mi : TMi} {ml : TMl} {z k n : Nat} {tp : Nat → Nat} {Q : TMi → TMl → Nat → Prop} (hT : TkR mi tp n) (h6 : mi 119 6 = nI k) (h9 : mi 119 9 = 25) (hkn : k < n)
    (hq : ∀ mi', (∀ q, q ≠ 119 → mi' q = mi q) → (∀ s, s ≠ 9 → mi' 119 s = mi 119 s) → mi' 119 9 = nI (sgn (tp k) 12) → Q mi' ml z) : Ev l (h + 6) m_R_next 254 ([.ref 119, .int 0], [], st mi ml z) (qV Q) := by
  have hn9 := hT.2.1
  refine loop (P := fun i => ∀ m, (∀ q, q ≠ 119 → m q = mi q) → (∀ s, s ≠ 9 → m 119 s = mi 119 s) → m 119 9 = nI (sgn (tp k) i) → Ev l (h + 6) m_R_next 254 ([.ref 119, .int (nI i)], [], st m ml z) (qV Q)) 12 (fun m E1 E2 E3 => ?_) (fun i hi ih m E1 E2 E3 => ?_) mi (fun q hq' => rfl) (fun s s1 => rfl) h9
  · exact t_R_next_254 m ml z _ (c_JS_length (j := 1) (by decide) ⟨fun _ => hq m E1 E2 E3, fun c => absurd (by decide) c⟩)
  · have hTm : TkR m tp n := ⟨by rw [E2 8 (by decide)]; exact hT.1, hn9, fun j hj => by rw [E1 122 (by decide)]; exact hT.2.2 j hj⟩
    refine t_R_next_254 m ml z _ (c_JS_length (j := 1) (by decide) ⟨fun c => absurd c (nI_ge hi (by decide)), fun _ => ?_⟩)
    rw [E2 6 (by decide), h6]
    refine c_seeR hTm (by omega) ?_
    rw [if_pos hkn]
    refine c_JS_charAt (j := 1) (by decide) hi ⟨fun c => ?_, fun c => ?_⟩
    · rw [nI_1]
      refine ih m E1 E2 ?_
      rw [E3]
      simp only [sgn]
      rw [if_neg (fun e => c e.symm)]
    · rw [nI_1, show (30 : Int32) + nI i = nI (30 + i) from addL 30 i]
      refine ih _ (fun q hq' => by rw [up_ne _ _ _ hq']; exact E1 q hq') (fun s s1 => by rw [up_nk _ _ _ s1]; exact E2 s s1) ?_
      rw [up_at]
      simp only [sgn]
      rw [if_pos c.symm]
theorem nI_rdiff {b : Nat} (hb : b < 256) : (nI b = 10 ∨ nI b = 32) ↔ isS b = true := by
  have : ∀ b, b < 256 → ((nI b = 10 ∨ nI b = 32) ↔ isS b = true) := by decide +kernel
  exact this b hb
theorem c_R_next {l : Launch} {h : Nat} {mi : TMi} {ml : TMl} {z p n : Nat} {tp : Nat → Nat} {Q : TMi → TMl → Nat → Prop} (hT : TkR mi tp n) (h7 : mi 119 7 = nI p) (hpn : p ≤ n)
    (hq : ∀ mi', (∀ a, a ≠ 119 → mi' a = mi a) → (∀ s, s ≠ 6 → s ≠ 7 → s ≠ 9 → s ≠ 10 → mi' 119 s = mi 119 s) → mi' 119 7 = nI (tkE tp n (tq tp n p)) → mi' 119 9 = nI (rk (tkK tp n (tq tp n p))) → mi' 119 6 = nI (tq tp n p) → (tkK tp n (tq tp n p) = 21 → mi' 119 10 = nI (tkV tp n (tq tp n p))) → Q mi' ml z) : CV l (h + 6) m_R_next [.ref 119] mi ml z Q := by
  have hn9 := hT.2.1
  refine t_R_next mi ml z ?_
  have key : ∀ f i m, n - (p + i) = f → p + i ≤ n → (∀ a, a ≠ 119 → m a = mi a) → (∀ s, s ≠ 6 → m 119 s = mi 119 s) → m 119 6 = nI (p + i) → ru isS tp n p = ru isS tp n (p + i) → Ev l (h + 6) m_R_next 8 ([.ref 119, .retAddr 0], [], st m ml z) (qV Q) := by
    intro f
    induction f with
    | zero =>
      intro i m hf hi E1 E2 E3 E6
      have er : tq tp n p = p + i := by unfold tq; rw [E6, ru_off (by omega)]
      have hTm : TkR m tp n := ⟨by rw [E2 8 (by decide)]; exact hT.1, hn9, fun j hj => by rw [E1 122 (by decide)]; exact hT.2.2 j hj⟩
      refine t_R_next_8 m ml z ?_
      rw [E3]
      refine c_seeR hTm (by omega) ?_
      rw [if_neg (by omega)]
      refine ⟨fun c => absurd c (by decide), fun _ => ?_⟩
      rw [E3]
      refine c_seeR hTm (by omega) ?_
      rw [if_neg (by omega)]
      refine ⟨fun _ => ⟨fun c => ?_, fun _ => ?_⟩, fun c => absurd c (by decide)⟩
      · rw [up_nk _ _ _ (by decide), up_nk _ _ _ (by decide), E3, hTm.1, nI_ltI (by omega) (by omega)] at c
        omega
      · have eE : tkE tp n (p + i) = p + i := by unfold tkE; rw [if_pos (by omega)]
        have eK : tkK tp n (p + i) = 22 := by unfold tkK; rw [if_pos (by omega)]
        rw [er, eE, eK] at hq
        refine hq _ (fun a ha => by rw [up_ne _ _ _ ha, up_ne _ _ _ ha]; exact E1 a ha) (fun s s6 s7 s9 s10 => by rw [up_nk _ _ _ s9, up_nk _ _ _ s7]; exact E2 s s6) ?_ ?_ ?_ (fun e => absurd e (by decide))
        · rw [up_nk _ _ _ (by decide), up_at, E3]
        · rw [up_at]; rfl
        · rw [up_nk _ _ _ (by decide), up_nk _ _ _ (by decide), E3]
    | succ f ih =>
      intro i m hf hi E1 E2 E3 E6
      have hlt : p + i < n := by omega
      have b2 := (hT.2.2 (p + i) hlt).2
      have hTm : TkR m tp n := ⟨by rw [E2 8 (by decide)]; exact hT.1, hn9, fun j hj => by rw [E1 122 (by decide)]; exact hT.2.2 j hj⟩
      have go : isS (tp (p + i)) = true → Ev l (h + 6) m_R_next 8 ([.ref 119, .retAddr 0], [], st (up m 119 6 (nI (p + i) + 1)) ml z) (qV Q) := fun c => by
        rw [nI_1]
        exact ih (i + 1) _ (by omega) (by omega) (fun a ha => by rw [up_ne _ _ _ ha]; exact E1 a ha) (fun s s1 => by rw [up_nk _ _ _ s1]; exact E2 s s1) (up_at _ _ _ _) (E6.trans (ru_on hlt c))
      refine t_R_next_8 m ml z ?_
      rw [E3]
      refine c_seeR hTm (by omega) ?_
      rw [if_pos hlt]
      refine ⟨fun c => ?_, fun c => ?_⟩
      · rw [E3]; exact go ((nI_rdiff b2).mp (Or.inl c))
      rw [E3]
      refine c_seeR hTm (by omega) ?_
      rw [if_pos hlt]
      refine ⟨fun c' => ⟨fun _ => ?_, fun c'' => ?_⟩, fun c' => ?_⟩
      · have ns : ¬ isS (tp (p + i)) = true := fun k => by
          rcases (nI_rdiff b2).mpr k with k | k
          · exact c k
          · exact c' k
        have er : tq tp n p = p + i := by unfold tq; rw [E6, ru_off (fun k => ns k.2)]
        rw [er] at hq
        have hq' : ∀ mi', (∀ a, a ≠ 119 → mi' a = m a) → (∀ s, s ≠ 7 → s ≠ 9 → s ≠ 10 → mi' 119 s = m 119 s) → mi' 119 7 = nI (tkE tp n (p + i)) → mi' 119 9 = nI (rk (tkK tp n (p + i))) → (tkK tp n (p + i) = 21 → mi' 119 10 = nI (tkV tp n (p + i))) → Q mi' ml z := fun mi' F1 F2 F3 F4 F5 => hq mi' (fun a ha => by rw [F1 a ha]; exact E1 a ha) (fun s s6 s7 s9 s10 => by rw [F2 s s7 s9 s10]; exact E2 s s6) F3 F4 (by rw [F2 6 (by decide) (by decide) (by decide)]; exact E3) F5
        have M6 : up m 119 7 (nI (p + i)) 119 6 = nI (p + i) := by rw [up_nk _ _ _ (by decide), E3]
        have M7 : up m 119 7 (nI (p + i)) 119 7 = nI (p + i) := up_at _ _ _ _
        have Ma : ∀ a, a ≠ 119 → up m 119 7 (nI (p + i)) a = m a := fun a ha => up_ne _ _ _ ha
        have Ms : ∀ s, s ≠ 7 → up m 119 7 (nI (p + i)) 119 s = m 119 s := fun s hs => up_nk _ _ _ hs
        have MT : TkR (up m 119 7 (nI (p + i))) tp n := ⟨by rw [Ms 8 (by decide)]; exact hTm.1, hn9, fun j hj => by rw [Ma 122 (by decide)]; exact hTm.2.2 j hj⟩
        rw [E3]
        generalize up m 119 7 (nI (p + i)) = M at M6 M7 Ma Ms MT ⊢
        rw [M6]
        refine c_seeR MT (by omega) ?_
        rw [if_pos hlt]
        refine c_R_isSmall b2 ?_
        rw [bI_0]
        refine ⟨fun c1 => ?_, fun c1 => ?_⟩
        · rw [M6]
          refine c_seeR MT (by omega) ?_
          rw [if_pos hlt]
          refine c_R_isDigit b2 ?_
          rw [bI_0]
          refine ⟨fun c2 => ?_, fun c2 => ?_⟩
          · have eE : tkE tp n (p + i) = p + i + 1 := by unfold tkE; rw [if_neg (by omega), if_neg (by rw [c1]; decide), if_neg (by rw [c2]; decide)]
            have eK : tkK tp n (p + i) = if isG (tp (p + i)) = true then tp (p + i) else 23 := by unfold tkK; rw [if_neg (by omega), if_neg (by rw [c1]; decide), if_neg (by rw [c2]; decide)]
            refine c_next254 (k := p + i) (n := n) (tp := tp) ⟨by rw [up_nk _ _ _ (by decide), up_nk _ _ _ (by decide)]; exact MT.1, hn9, fun j hj => by rw [up_ne _ _ _ (by decide), up_ne _ _ _ (by decide)]; exact MT.2.2 j hj⟩ (by rw [up_nk _ _ _ (by decide), up_nk _ _ _ (by decide)]; exact M6) (up_at _ _ _ _) hlt (fun mi' F1 F2 F3 => ?_)
            refine hq' mi' (fun a ha => by rw [F1 a ha, up_ne _ _ _ ha, up_ne _ _ _ ha]; exact Ma a ha) (fun s s7 s9 s10 => by rw [F2 s s9, up_nk _ _ _ s9, up_nk _ _ _ s7]; exact Ms s s7) ?_ ?_ (fun e => ?_)
            · rw [F2 7 (by decide), up_nk _ _ _ (by decide), up_at, M7, nI_1, eE]
            · rw [F3, eK, sgn_rk _ b2]
            · rw [eK] at e
              by_cases c3 : isG (tp (p + i)) = true
              · rw [if_pos c3] at e
                have := isG_lt _ b2 c3
                omega
              · rw [if_neg c3] at e; omega
          · rw [Bool.not_eq_false] at c2
            have eE : tkE tp n (p + i) = ru isD tp n (p + i) := by unfold tkE; rw [if_neg (by omega), if_neg (by rw [c1]; decide), if_pos c2]
            have eK : tkK tp n (p + i) = if ru isD tp n (p + i) - (p + i) ≤ 3 then 21 else 23 := by unfold tkK; rw [if_neg (by omega), if_neg (by rw [c1]; decide), if_pos c2]
            refine c_next146 (k := p + i) (n := n) (tp := tp) ⟨by rw [up_nk _ _ _ (by decide)]; exact MT.1, hn9, fun j hj => by rw [up_ne _ _ _ (by decide)]; exact MT.2.2 j hj⟩ (by rw [up_nk _ _ _ (by decide)]; exact M6) (by rw [up_nk _ _ _ (by decide)]; exact M7) (up_at _ _ _ _) (by omega) (fun mi' F1 F2 F3 F4 F5 => ?_)
            refine hq' mi' (fun a ha => by rw [F1 a ha, up_ne _ _ _ ha]; exact Ma a ha) (fun s s7 s9 s10 => by rw [F2 s s7 s10 s9, up_nk _ _ _ s10]; exact Ms s s7) ?_ ?_ (fun e => ?_)
            · rw [F3, eE]
            · rw [F5, eK]
              split <;> rfl
            · exact F4
        · rw [Bool.not_eq_false] at c1
          have eE : tkE tp n (p + i) = ru isL tp n (p + i) := by unfold tkE; rw [if_neg (by omega), if_pos c1]
          have eK : tkK tp n (p + i) = wdOf tp (p + i) (ru isL tp n (p + i) - (p + i)) := by unfold tkK; rw [if_neg (by omega), if_pos c1]
          refine c_next89 (k := p + i) (n := n) (tp := tp) MT M6 M7 (by omega) (fun mi' F1 F2 F3 F4 => ?_)
          refine hq' mi' (fun a ha => by rw [F1 a ha]; exact Ma a ha) (fun s s7 s9 s10 => by rw [F2 s s7 s9]; exact Ms s s7) ?_ ?_ (fun e => ?_)
          · rw [F3, eE]
          · rw [F4, eK]
          · have := wdOf_le tp (p + i) (ru isL tp n (p + i) - (p + i))
            omega
      · refine absurd ?_ c''
        rw [up_nk _ _ _ (by decide), up_nk _ _ _ (by decide), E3, hTm.1, nI_ltI (by omega) (by omega)]
        exact hlt
      · rw [E3]; exact go ((nI_rdiff b2).mp (Or.inr c'))
  exact key _ 0 _ rfl (by omega) (fun a ha => up_ne _ _ _ ha) (fun s s1 => up_nk _ _ _ s1) (by rw [up_at]; exact h7) rfl
