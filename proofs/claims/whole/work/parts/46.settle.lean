/-! ===== the class's match: the choice best for becks ===== -/
def dryL (S : Nat → Bool) (L : Nat → Nat → Int) : Nat → Nat → Int := fun b r => if S b = true then L b r else 0
theorem wd_on {S : Nat → Bool} {L T : Nat → Nat → Int} {b r : Nat} (h : S b = true) : wdO (dryL S L) T b r = wdO L T b r := by simp [wdO, dryL, h]
theorem wd_off {S : Nat → Bool} {L T : Nat → Nat → Int} {b r : Nat} (h : S b = false) : wdO (dryL S L) T b r = false := by simp [wdO, dryL, h]
theorem pb_on {S : Nat → Bool} {L : Nat → Nat → Int} {b r : Nat} (h : S b = true) : pbO (dryL S L) b r = pbO L b r := by simp [pbO, dryL, h]
theorem wd_run {S : Nat → Bool} {L T : Nat → Nat → Int} {b r : Nat} (h : wdO (dryL S L) T b r = true) : S b = true := by
  cases e : S b
  · rw [wd_off e] at h; cases h
  · rfl
def InvB (B R : Nat) (L T : Nat → Nat → Int) (rm : Nat → Nat) (wo : Nat → Option Nat) (A : Nat → Nat → Bool) : Prop := AskB B R L T rm wo (fun b r => A b r = true ∧ ¬ wo b = some r) ∧ ∀ b r, b < B → wo b = some r → A b r = true
theorem InvB.in_ {B R : Nat} {L T : Nat → Nat → Int} {rm : Nat → Nat} {wo : Nat → Option Nat} {A : Nat → Nat → Bool} (h : InvB B R L T rm wo A) {b r : Nat} (hb : b < B) (hr : r < R) (hn : wo b = none) (hw : wdO L T b r = true) (hx : A b r = false) (hbest : ∀ r', r' < R → wdO L T b r' = true → A b r' = false → pbO L b r' ≤ pbO L b r) (hc : cnt (inn (fun i => if i = b then some r else wo i) r) B ≤ rm r) :
    InvB B R L T rm (fun i => if i = b then some r else wo i) (askA A b r) := by
  rw [cnt_add hb (by rw [hn]; simp)] at hc
  have k := h.1.in_ hb hr hn hw (fun q => by rw [hx] at q; cases q.1) (fun r' hr' hw' q => hbest r' hr' hw' (by
    cases e : A b r'
    · rfl
    · exact absurd ⟨e, by rw [hn]; simp⟩ q)) (by omega)
  have eX : (fun b' r' => askA A b r b' r' = true ∧ ¬ (if b' = b then some r else wo b') = some r') = (fun b' r' => A b' r' = true ∧ ¬ wo b' = some r') := by
    funext b' r'
    by_cases q : b' = b
    · subst q
      by_cases q2 : r' = r
      · subst q2; simp [hx]
      · simp [askA, hn, q2, Ne.symm q2]
    · simp [askA, q]
  refine ⟨?_, fun b' r' hb' e => ?_⟩
  · rw [eX]; exact k
  · by_cases q : b' = b
    · subst q; simp at e; subst e; simp [askA]
    · simp [q] at e; simp [askA, h.2 b' r' hb' e]
theorem InvB.out {B R : Nat} {L T : Nat → Nat → Int} {rm : Nat → Nat} {wo : Nat → Option Nat} {A : Nat → Nat → Bool} (hB6 : B ≤ 6) (hR4 : R ≤ 4) (h : InvB B R L T rm wo A) {b r o : Nat} (hb : b < B) (hr : r < R) (hn : wo b = none) (hw : wdO L T b r = true) (hx : A b r = false) (hbest : ∀ r', r' < R → wdO L T b r' = true → A b r' = false → pbO L b r' ≤ pbO L b r) (hc : ¬ cnt (inn (fun i => if i = b then some r else wo i) r) B ≤ rm r)
    (ho : lst (inn (fun i => if i = b then some r else wo i) r) (fun b' => prO T b' r) B = some o) : InvB B R L T rm (fun i => if i = o then none else if i = b then some r else wo i) (askA A b r) := by
  rw [cnt_add hb (by rw [hn]; simp)] at hc
  have ho0 := lst_lt ho
  have ho1 : o = b ∨ wo o = some r := by
    have := ho0.2
    by_cases q : o = b
    · exact Or.inl q
    · simp [inn, q] at this; exact Or.inr this
  have h2 := h.1.2.1 r hr
  have k := h.1.out hR4 hb hr hn hw (fun q => by rw [hx] at q; cases q.1) (fun r' hr' hw' q => hbest r' hr' hw' (by
    cases e : A b r'
    · rfl
    · exact absurd ⟨e, by rw [hn]; simp⟩ q)) (by omega) ho0.1 ho1 (fun m hm q hne => by
      have := lst_min ho m hm (by
        rcases q with q | q
        · simp [inn, q]
        · by_cases q2 : m = b
          · simp [inn, q2]
          · simp [inn, q2, q])
      by_cases c : prO T o r = prO T m r
      · exact absurd (prO_inj (by omega) (by omega) c).symm hne
      · omega)
  have eX : (fun b' r' => askA A b r b' r' = true ∧ ¬ (if b' = o then none else if b' = b then some r else wo b') = some r') = (fun b' r' => (A b' r' = true ∧ ¬ wo b' = some r') ∨ (b' = o ∧ r' = r)) := by
    funext b' r'
    by_cases q : b' = o
    · subst q
      rcases ho1 with k1 | k1
      · subst k1; simp [askA, hn]
      · have hbo : ¬ b' = b := fun q => by rw [q, hn] at k1; cases k1
        have hA := h.2 b' r ho0.1 k1
        by_cases q2 : r' = r
        · subst q2; simp [askA, hbo, hA]
        · simp [askA, hbo, k1, q2, Ne.symm q2]
    · by_cases q3 : b' = b
      · subst q3
        by_cases q2 : r' = r
        · subst q2; simp [q, hx]
        · simp [askA, hn, q, q2, Ne.symm q2]
      · simp [askA, q, q3]
  refine ⟨?_, fun b' r' hb' e => ?_⟩
  · rw [eX]; exact k
  · by_cases q : b' = o
    · simp [q] at e
    · by_cases q3 : b' = b
      · subst q3; simp [q] at e; subst e; simp [askA]
      · simp [q, q3] at e; simp [askA, h.2 b' r' hb' e]
def NA (A : Nat → Nat → Bool) : Nat := smr (fun b => cnt (A b) 4) 6
theorem smr_up {f g : Nat → Nat} {b : Nat} (he : ∀ x, ¬ x = b → g x = f x) (hb : g b = f b + 1) : ∀ {n : Nat}, b < n → smr g n = smr f n + 1
  | 0, h => absurd h (Nat.not_lt_zero _)
  | n + 1, h => by
    simp only [smr]
    by_cases q : b = n
    · subst q
      rw [hb, smr_congr (f := g) (g := f) (fun r hr => he r (by omega))]
      omega
    · rw [smr_up he hb (n := n) (by omega), he n (fun k => q k.symm)]
      omega
theorem NA_ask {A : Nat → Nat → Bool} {b r : Nat} (hb : b < 6) (hr : r < 4) (h : A b r = false) : NA (askA A b r) = NA A + 1 := by
  refine smr_up (b := b) (fun x hx => cnt_congr (fun y _ => by simp [askA, hx])) ?_ hb
  have := cnt_clr (p := askA A b r b) (m := r) (B := 4) hr (by simp [askA])
  rw [← this]
  congr 1
  refine cnt_congr (fun y _ => ?_)
  by_cases q : y = r
  · subst q; simp [h]
  · simp [askA, q]
theorem cnt_full {p : Nat → Bool} : ∀ {n : Nat}, n ≤ cnt p n → ∀ b, b < n → p b = true
  | 0, _, b, hb => absurd hb (Nat.not_lt_zero _)
  | n + 1, h, b, hb => by
    have hle := cnt_le p n
    have e : p n = true := by
      cases q : p n
      · simp [cnt, q] at h; omega
      · rfl
    by_cases q : b = n
    · subst q; exact e
    · exact cnt_full (n := n) (by simp [cnt, e] at h; omega) b (by omega)
theorem NA_full {A : Nat → Nat → Bool} (h : 24 ≤ NA A) : ∀ b, b < 6 → ∀ r, r < 4 → A b r = true := by
  intro b hb
  have k : ∀ x, cnt (A x) 4 ≤ 4 := fun x => cnt_le _ _
  have : 4 ≤ cnt (A b) 4 := by
    have k0 := k 0; have k1 := k 1; have k2 := k 2; have k3 := k 3; have k4 := k 4; have k5 := k 5
    simp only [NA, smr] at h
    have hb' : b = 0 ∨ b = 1 ∨ b = 2 ∨ b = 3 ∨ b = 4 ∨ b = 5 := by omega
    rcases hb' with q | q | q | q | q | q <;> subst q <;> omega
  exact cnt_full this
theorem InvB.lst {R b r : Nat} {L T : Nat → Nat → Int} {A : Nat → Nat → Bool} {S : Nat → Bool} (hR4 : R ≤ 4) (hS : S b = true) (h : lst (fun r => decide (r < R) && wdO L T b r && !A b r) (fun r => - pbO L b r) 4 = some r) : r < R ∧ wdO (dryL S L) T b r = true ∧ A b r = false ∧ ∀ r', r' < R → wdO (dryL S L) T b r' = true → A b r' = false → pbO (dryL S L) b r' ≤ pbO (dryL S L) b r := by
  have h0 := (lst_lt h).2
  simp at h0
  refine ⟨h0.1.1, by rw [wd_on hS]; exact h0.1.2, h0.2, fun r' hr' hw ha => ?_⟩
  rw [wd_on hS] at hw
  have := lst_min h r' (by omega) (by simp [hr', hw, ha])
  rw [pb_on hS, pb_on hS]
  omega
/-- the choice best for becks, the one worst for them -/
def Best (B R : Nat) (L T : Nat → Nat → Int) (rm : Nat → Nat) (wo : Nat → Option Nat) : Prop := Stb B R L T rm wo ∧ ∀ mu, Stb B R L T rm mu → ∀ b r, b < B → mu b = some r → ∃ r', wo b = some r' ∧ pbO L b r ≤ pbO L b r'
def Worst (B R : Nat) (L T : Nat → Nat → Int) (rm : Nat → Nat) (wo : Nat → Option Nat) : Prop := Stb B R L T rm wo ∧ ∀ mu, Stb B R L T rm mu → ∀ b r, b < B → wo b = some r → ∃ r', mu b = some r' ∧ pbO L b r ≤ pbO L b r'
theorem cnt_nowhere {r : Nat} : ∀ {n : Nat}, cnt (inn (fun _ => none) r) n = 0
  | 0 => rfl
  | n + 1 => by simp only [cnt]; exact cnt_nowhere
theorem InvB_0 (B R : Nat) (L T : Nat → Nat → Int) (rm : Nat → Nat) : InvB B R L T rm (fun _ => none) (fun _ _ => false) :=
  ⟨⟨fun b r hb e => (by cases e), fun r hr => (by rw [cnt_nowhere]; exact Nat.zero_le _), fun b r hb hr e => (by cases e.1), fun mu hmu b r hb hr e => (by cases e.1)⟩, fun b r hb e => (by cases e)⟩
theorem c_Ma_settle_17 {l : Launch} {h : Nat} {mi : TMi} {ml : TMl} {z : Nat} {B R b : Nat} {S : Nat → Bool} {L T : Nat → Nat → Int} {rm : Nat → Nat} {wo : Nat → Option Nat} {A : Nat → Nat → Bool} {Q : TMi → TMl → Nat → Prop} (hB : mi 18 0 = nI B) (hB6 : B ≤ 6) (hR4 : R ≤ 4) (hl : SLp mi 28 29 30 31 32 B R allP L T) (hrm : ∀ r, r < R → mi 27 (12 + r) = nI (rm r) ∧ rm r < 100)
    (hs : MaS mi B 4 wo A) (hI : InvB B R (dryL S L) T rm wo A) (hb : b < B) (hS : S b = true) (hD : ∀ b', b' < b → wo b' = none → ∀ r, r < R → wdO (dryL S L) T b' r = true → A b' r = true) (hN : ∀ b', b ≤ b' → wo b' = none)
    (hq : ∀ mi' wo' A', Fr [56, 57, 58, 59] mi mi' → MaS mi' B 4 wo' A' → InvB B R (dryL S L) T rm wo' A' → (∀ b', b' < b + 1 → wo' b' = none → ∀ r, r < R → wdO (dryL S L) T b' r = true → A' b' r = true) → (∀ b', b + 1 ≤ b' → wo' b' = none) → Q mi' ml z) : CV l (h + 3) m_Ma_settle [.ref 55, .ref 17, .int (nI b)] mi ml z Q := by
  refine t_Ma_settle_17 mi ml z _ ?_
  have last : ∀ m wo A v, Fr [56, 57, 58, 59] mi m → MaS m B 4 wo A → InvB B R (dryL S L) T rm wo A → (∀ b', b' < b + 1 → wo b' = none → ∀ r, r < R → wdO (dryL S L) T b' r = true → A b' r = true) → (∀ b', b + 1 ≤ b' → wo b' = none) → Ev l (h + 3) m_Ma_settle 5 ([.ref 55, .ref 17, .retAddr 0, .int (-1), .int v, .retAddr 0], [], st m ml z) (qV Q) :=
    fun m wo A v F hs hI hD hN => t_Ma_settle_17_5 m ml z _ _ ⟨fun _ => hq m wo A F hs hI hD hN, fun _ => ⟨fun _ => hq m wo A F hs hI hD hN, fun c => absurd rfl c⟩⟩
  refine loop (P := fun i => ∀ m wo A c, Fr [56, 57, 58, 59] mi m → MaS m B 4 wo A → InvB B R (dryL S L) T rm wo A → c ≤ b → S c = true → wo c = none → (∀ b', b' < b + 1 → ¬ b' = c → wo b' = none → ∀ r, r < R → wdO (dryL S L) T b' r = true → A b' r = true) → (∀ b', b + 1 ≤ b' → wo b' = none) → i ≤ NA A → Ev l (h + 3) m_Ma_settle 5 ([.ref 55, .ref 17, .retAddr 0, .int (nI c), .int (nI i), .retAddr 0], [], st m ml z) (qV Q)) 24 (fun m wo A c F hs hI hc hSc hn hD hN hA => ?_) (fun i hi ih m wo A c F hs hI hc hSc hn hD hN hA => ?_) mi wo A b (Fr.refl _ _) hs hI (Nat.le_refl _) hS (hN b (Nat.le_refl _)) (fun b' h1 h2 => hD b' (by omega)) (fun b' h1 => hN b' (by omega)) (Nat.zero_le _)
  · have := NA_full hA
    have hq' := hq m wo A F hs hI (fun b' h1 h2 r hr hw => this b' (by omega) r (by omega)) hN
    exact t_Ma_settle_17_5 m ml z _ _ ⟨fun _ => hq', fun c => absurd (by decide) c⟩
  · have hcB : c < B := by omega
    have hlm : SLp m 28 29 30 31 32 B R allP L T := hl.f5 F (by decide)
    refine t_Ma_settle_17_5 m ml z _ _ ⟨fun q => absurd q (ge_no (N := 24) rfl (by decide) hi), fun _ => ⟨fun q => absurd q (neg1_ne (by omega)), fun _ => c_Ma_nextRiver_17 hB6 hR4 hlm hs hcB ?_⟩⟩
    cases e : lst (fun r => decide (r < R) && wdO L T c r && !A c r) (fun r => - pbO L c r) 4 with
    | none =>
      refine ⟨fun q => absurd rfl q, fun _ => last m wo A _ F hs hI (fun b' h1 h2 r hr hw => ?_) hN⟩
      by_cases q : b' = c
      · subst q
        have := lst_none e r (by omega)
        rw [wd_on hSc] at hw
        simpa [hr, hw] using this
      · exact hD b' h1 q h2 r hr hw
    | some r =>
      obtain ⟨hr, hw, hx, hbest⟩ := InvB.lst (S := S) hR4 hSc e
      have hBm : m 18 0 = nI B := by rw [F 18 (by decide)]; exact hB
      have hrmm : m 27 (12 + r) = nI (rm r) := by rw [F 27 (by decide)]; exact (hrm r hr).1
      refine ⟨fun _ => c_Ma_admit_17 hBm hB6 hR4 hlm hs hcB hr hn hrmm (hrm r hr).2 (fun hc1 m' F' hs' => ?_) (fun hc1 o m' ho F' hs' => ?_), fun q => absurd q (neg1_ne (by omega))⟩
      · refine last m' _ _ _ (F.step F') hs' (hI.in_ hcB hr hn hw hx hbest hc1) (fun b' h1 h2 r' hr' hw' => ?_) (fun b' h1 => ?_)
        · by_cases q : b' = c
          · simp [q] at h2
          · simp [q] at h2
            simp [askA, hD b' h1 q h2 r' hr' hw']
        · have : ¬ b' = c := by omega
          simp [this, hN b' h1]
      · have ho0 := lst_lt ho
        have ho1 : o = c ∨ wo o = some r := by
          by_cases q : o = c
          · exact Or.inl q
          · have := ho0.2; simp [inn, q] at this; exact Or.inr this
        have hob : o ≤ b := by
          rcases ho1 with q | q
          · omega
          · by_cases k : o ≤ b
            · exact k
            · rw [hN o (by omega)] at q; cases q
        have hSo : S o = true := by
          rcases ho1 with q | q
          · rw [q]; exact hSc
          · exact wd_run (hI.1.1 o r ho0.1 q).2.1
        have := ih m' _ _ o (F.step F') hs' (hI.out hB6 hR4 hcB hr hn hw hx hbest hc1 ho) hob hSo (by simp) (fun b' h1 h0 h2 r' hr' hw' => by
          by_cases q : b' = c
          · simp [h0, q] at h2
            exact absurd h2 (by rw [← q]; simp [h0])
          · simp [h0, q] at h2
            simp [askA, hD b' h1 q h2 r' hr' hw']) (fun b' h1 => by
          have k1 : ¬ b' = c := by omega
          have k2 : ¬ b' = o := by omega
          simp [k1, k2, hN b' h1]) (by rw [NA_ask (by omega) (by omega) hx]; omega)
        rw [nI_1]
        exact this
theorem c_Ma_bestForBecks_17 {l : Launch} {h : Nat} {mi : TMi} {ml : TMl} {z : Nat} {B R s : Nat} {L T : Nat → Nat → Int} {rm : Nat → Nat} {Q : TMi → TMl → Nat → Prop} (hB : mi 18 0 = nI B) (hB6 : B ≤ 6) (hR4 : R ≤ 4) (hl : SLp mi 28 29 30 31 32 B R allP L T) (hrm : ∀ r, r < R → mi 27 (12 + r) = nI (rm r) ∧ rm r < 100) (hs : s < 64)
    (hq : ∀ mi' wo, Fr [56, 57, 58, 59] mi mi' → isW (mi' 56) B R wo → Best B R (dryL (fun b => tb s b) L) T rm wo → Q mi' ml z) : CV l (h + 4) m_Ma_bestForBecks [.ref 55, .ref 17, .int (nI s)] mi ml z Q := by
  refine t_Ma_bestForBecks_17 mi ml z _ (c_Ma_clear (B := B) (n := 4) (fun m0 F0 hs0 => ?_))
  refine loop (P := fun i => ∀ m wo A, Fr [56, 57, 58, 59] mi m → MaS m B 4 wo A → InvB B R (dryL (fun b => tb s b) L) T rm wo A → (∀ b', b' < i → wo b' = none → ∀ r, r < R → wdO (dryL (fun b => tb s b) L) T b' r = true → A b' r = true) → (∀ b', i ≤ b' → wo b' = none) → Ev l (h + 4) m_Ma_bestForBecks 6 ([.ref 55, .ref 17, .int (nI s), .int (nI i)], [], st m ml z) (qV Q)) B (fun m wo A F hs hI hD hN => ?_) (fun i hi ih m wo A F hm hI hD hN => ?_) m0 _ _ F0 hs0 (InvB_0 _ _ _ _ _) (fun b' hb' => absurd hb' (Nat.not_lt_zero _)) (fun _ _ => rfl)
  · refine t_Ma_bestForBecks_17_6 m ml z _ _ ⟨fun _ => hq m wo F (fun b hb => ⟨hs.1 b (by omega), fun r e => (hI.1.1 b r hb e).1⟩) (hI.1.end (fun b r hb hr hn hw => ⟨hD b hb hn r hr hw, by rw [hn]; simp⟩)), fun c => absurd (le_at (by rw [F 18 (by decide)]; exact hB) (by omega)) c⟩
  · have hBm : m 18 0 = nI B := by rw [F 18 (by decide)]; exact hB
    refine t_Ma_bestForBecks_17_6 m ml z _ _ ⟨fun c => absurd c (ge_no hBm (by omega) hi), fun _ => ⟨fun c => ?_, fun c => ?_⟩⟩
    · rw [sr_tb hs (by omega)] at c
      rw [nI_1]
      refine ih m wo A F hm hI (fun b' h1 h2 r hr hw => ?_) (fun b' h1 => hN b' (by omega))
      by_cases q : b' = i
      · subst q; rw [wd_off (S := fun b => tb s b) c] at hw; cases hw
      · exact hD b' (by omega) h2 r hr hw
    · rw [sr_tb hs (by omega)] at c
      rw [nI_1]
      exact c_Ma_settle_17 (S := fun b => tb s b) hBm hB6 hR4 (hl.f5 F (by decide)) (fun r hr => by rw [F 27 (by decide)]; exact hrm r hr) hm hI hi (by simpa using c) hD hN (fun m' wo' A' F' hs' hI' hD' hN' => ih m' wo' A' (F.step F') hs' hI' hD' hN')
theorem c_Ma_settle_33 {l : Launch} {h : Nat} {mi : TMi} {ml : TMl} {z : Nat} {B R b : Nat} {S : Nat → Bool} {L T : Nat → Nat → Int} {rm : Nat → Nat} {wo : Nat → Option Nat} {A : Nat → Nat → Bool} {Q : TMi → TMl → Nat → Prop} (hB : mi 18 0 = nI B) (hB6 : B ≤ 6) (hR4 : R ≤ 4) (hl : SLp mi 35 36 37 38 39 B R allP L T) (hrm : ∀ r, r < R → mi 34 (12 + r) = nI (rm r) ∧ rm r < 100)
    (hs : MaS mi B 4 wo A) (hI : InvB B R (dryL S L) T rm wo A) (hb : b < B) (hS : S b = true) (hD : ∀ b', b' < b → wo b' = none → ∀ r, r < R → wdO (dryL S L) T b' r = true → A b' r = true) (hN : ∀ b', b ≤ b' → wo b' = none)
    (hq : ∀ mi' wo' A', Fr [56, 57, 58, 59] mi mi' → MaS mi' B 4 wo' A' → InvB B R (dryL S L) T rm wo' A' → (∀ b', b' < b + 1 → wo' b' = none → ∀ r, r < R → wdO (dryL S L) T b' r = true → A' b' r = true) → (∀ b', b + 1 ≤ b' → wo' b' = none) → Q mi' ml z) : CV l (h + 3) m_Ma_settle [.ref 55, .ref 33, .int (nI b)] mi ml z Q := by
  refine t_Ma_settle_33 mi ml z _ ?_
  have last : ∀ m wo A v, Fr [56, 57, 58, 59] mi m → MaS m B 4 wo A → InvB B R (dryL S L) T rm wo A → (∀ b', b' < b + 1 → wo b' = none → ∀ r, r < R → wdO (dryL S L) T b' r = true → A b' r = true) → (∀ b', b + 1 ≤ b' → wo b' = none) → Ev l (h + 3) m_Ma_settle 5 ([.ref 55, .ref 33, .retAddr 0, .int (-1), .int v, .retAddr 0], [], st m ml z) (qV Q) :=
    fun m wo A v F hs hI hD hN => t_Ma_settle_33_5 m ml z _ _ ⟨fun _ => hq m wo A F hs hI hD hN, fun _ => ⟨fun _ => hq m wo A F hs hI hD hN, fun c => absurd rfl c⟩⟩
  refine loop (P := fun i => ∀ m wo A c, Fr [56, 57, 58, 59] mi m → MaS m B 4 wo A → InvB B R (dryL S L) T rm wo A → c ≤ b → S c = true → wo c = none → (∀ b', b' < b + 1 → ¬ b' = c → wo b' = none → ∀ r, r < R → wdO (dryL S L) T b' r = true → A b' r = true) → (∀ b', b + 1 ≤ b' → wo b' = none) → i ≤ NA A → Ev l (h + 3) m_Ma_settle 5 ([.ref 55, .ref 33, .retAddr 0, .int (nI c), .int (nI i), .retAddr 0], [], st m ml z) (qV Q)) 24 (fun m wo A c F hs hI hc hSc hn hD hN hA => ?_) (fun i hi ih m wo A c F hs hI hc hSc hn hD hN hA => ?_) mi wo A b (Fr.refl _ _) hs hI (Nat.le_refl _) hS (hN b (Nat.le_refl _)) (fun b' h1 h2 => hD b' (by omega)) (fun b' h1 => hN b' (by omega)) (Nat.zero_le _)
  · have := NA_full hA
    have hq' := hq m wo A F hs hI (fun b' h1 h2 r hr hw => this b' (by omega) r (by omega)) hN
    exact t_Ma_settle_33_5 m ml z _ _ ⟨fun _ => hq', fun c => absurd (by decide) c⟩
  · have hcB : c < B := by omega
    have hlm : SLp m 35 36 37 38 39 B R allP L T := hl.f5 F (by decide)
    refine t_Ma_settle_33_5 m ml z _ _ ⟨fun q => absurd q (ge_no (N := 24) rfl (by decide) hi), fun _ => ⟨fun q => absurd q (neg1_ne (by omega)), fun _ => c_Ma_nextRiver_33 hB6 hR4 hlm hs hcB ?_⟩⟩
    cases e : lst (fun r => decide (r < R) && wdO L T c r && !A c r) (fun r => - pbO L c r) 4 with
    | none =>
      refine ⟨fun q => absurd rfl q, fun _ => last m wo A _ F hs hI (fun b' h1 h2 r hr hw => ?_) hN⟩
      by_cases q : b' = c
      · subst q
        have := lst_none e r (by omega)
        rw [wd_on hSc] at hw
        simpa [hr, hw] using this
      · exact hD b' h1 q h2 r hr hw
    | some r =>
      obtain ⟨hr, hw, hx, hbest⟩ := InvB.lst (S := S) hR4 hSc e
      have hBm : m 18 0 = nI B := by rw [F 18 (by decide)]; exact hB
      have hrmm : m 34 (12 + r) = nI (rm r) := by rw [F 34 (by decide)]; exact (hrm r hr).1
      refine ⟨fun _ => c_Ma_admit_33 hBm hB6 hR4 hlm hs hcB hr hn hrmm (hrm r hr).2 (fun hc1 m' F' hs' => ?_) (fun hc1 o m' ho F' hs' => ?_), fun q => absurd q (neg1_ne (by omega))⟩
      · refine last m' _ _ _ (F.step F') hs' (hI.in_ hcB hr hn hw hx hbest hc1) (fun b' h1 h2 r' hr' hw' => ?_) (fun b' h1 => ?_)
        · by_cases q : b' = c
          · simp [q] at h2
          · simp [q] at h2
            simp [askA, hD b' h1 q h2 r' hr' hw']
        · have : ¬ b' = c := by omega
          simp [this, hN b' h1]
      · have ho0 := lst_lt ho
        have ho1 : o = c ∨ wo o = some r := by
          by_cases q : o = c
          · exact Or.inl q
          · have := ho0.2; simp [inn, q] at this; exact Or.inr this
        have hob : o ≤ b := by
          rcases ho1 with q | q
          · omega
          · by_cases k : o ≤ b
            · exact k
            · rw [hN o (by omega)] at q; cases q
        have hSo : S o = true := by
          rcases ho1 with q | q
          · rw [q]; exact hSc
          · exact wd_run (hI.1.1 o r ho0.1 q).2.1
        have := ih m' _ _ o (F.step F') hs' (hI.out hB6 hR4 hcB hr hn hw hx hbest hc1 ho) hob hSo (by simp) (fun b' h1 h0 h2 r' hr' hw' => by
          by_cases q : b' = c
          · simp [h0, q] at h2
            exact absurd h2 (by rw [← q]; simp [h0])
          · simp [h0, q] at h2
            simp [askA, hD b' h1 q h2 r' hr' hw']) (fun b' h1 => by
          have k1 : ¬ b' = c := by omega
          have k2 : ¬ b' = o := by omega
          simp [k1, k2, hN b' h1]) (by rw [NA_ask (by omega) (by omega) hx]; omega)
        rw [nI_1]
        exact this
theorem c_Ma_bestForBecks_33 {l : Launch} {h : Nat} {mi : TMi} {ml : TMl} {z : Nat} {B R s : Nat} {L T : Nat → Nat → Int} {rm : Nat → Nat} {Q : TMi → TMl → Nat → Prop} (hB : mi 18 0 = nI B) (hB6 : B ≤ 6) (hR4 : R ≤ 4) (hl : SLp mi 35 36 37 38 39 B R allP L T) (hrm : ∀ r, r < R → mi 34 (12 + r) = nI (rm r) ∧ rm r < 100) (hs : s < 64)
    (hq : ∀ mi' wo, Fr [56, 57, 58, 59] mi mi' → isW (mi' 56) B R wo → Best B R (dryL (fun b => tb s b) L) T rm wo → Q mi' ml z) : CV l (h + 4) m_Ma_bestForBecks [.ref 55, .ref 33, .int (nI s)] mi ml z Q := by
  refine t_Ma_bestForBecks_33 mi ml z _ (c_Ma_clear (B := B) (n := 4) (fun m0 F0 hs0 => ?_))
  refine loop (P := fun i => ∀ m wo A, Fr [56, 57, 58, 59] mi m → MaS m B 4 wo A → InvB B R (dryL (fun b => tb s b) L) T rm wo A → (∀ b', b' < i → wo b' = none → ∀ r, r < R → wdO (dryL (fun b => tb s b) L) T b' r = true → A b' r = true) → (∀ b', i ≤ b' → wo b' = none) → Ev l (h + 4) m_Ma_bestForBecks 6 ([.ref 55, .ref 33, .int (nI s), .int (nI i)], [], st m ml z) (qV Q)) B (fun m wo A F hs hI hD hN => ?_) (fun i hi ih m wo A F hm hI hD hN => ?_) m0 _ _ F0 hs0 (InvB_0 _ _ _ _ _) (fun b' hb' => absurd hb' (Nat.not_lt_zero _)) (fun _ _ => rfl)
  · refine t_Ma_bestForBecks_33_6 m ml z _ _ ⟨fun _ => hq m wo F (fun b hb => ⟨hs.1 b (by omega), fun r e => (hI.1.1 b r hb e).1⟩) (hI.1.end (fun b r hb hr hn hw => ⟨hD b hb hn r hr hw, by rw [hn]; simp⟩)), fun c => absurd (le_at (by rw [F 18 (by decide)]; exact hB) (by omega)) c⟩
  · have hBm : m 18 0 = nI B := by rw [F 18 (by decide)]; exact hB
    refine t_Ma_bestForBecks_33_6 m ml z _ _ ⟨fun c => absurd c (ge_no hBm (by omega) hi), fun _ => ⟨fun c => ?_, fun c => ?_⟩⟩
    · rw [sr_tb hs (by omega)] at c
      rw [nI_1]
      refine ih m wo A F hm hI (fun b' h1 h2 r hr hw => ?_) (fun b' h1 => hN b' (by omega))
      by_cases q : b' = i
      · subst q; rw [wd_off (S := fun b => tb s b) c] at hw; cases hw
      · exact hD b' (by omega) h2 r hr hw
    · rw [sr_tb hs (by omega)] at c
      rw [nI_1]
      exact c_Ma_settle_33 (S := fun b => tb s b) hBm hB6 hR4 (hl.f5 F (by decide)) (fun r hr => by rw [F 34 (by decide)]; exact hrm r hr) hm hI hi (by simpa using c) hD hN (fun m' wo' A' F' hs' hI' hD' hN' => ih m' wo' A' (F.step F') hs' hI' hD' hN')
