/-! ===== rivers ask ===== -/
def AskR (B R : Nat) (L T : Nat → Nat → Int) (rm : Nat → Nat) (wo : Nat → Option Nat) (X : Nat → Nat → Prop) : Prop :=
  (∀ b r, b < B → wo b = some r → r < R ∧ wdO L T b r = true ∧ ¬ X b r) ∧
  (∀ b r, b < B → r < R → X b r → ∃ r', wo b = some r' ∧ pbO L b r < pbO L b r') ∧
  (∀ r, r < R → cnt (inn wo r) B ≤ rm r) ∧
  (∀ r b b', r < R → b < B → b' < B → (X b r ∨ wo b = some r) → wdO L T b' r = true → ¬ X b' r → ¬ wo b' = some r → prO T b' r < prO T b r) ∧
  ∀ mu, Stb B R L T rm mu → ∀ b r, b < B → r < R → X b r → ¬ mu b = some r
/-- where a choice that holds gives a beck less than it has: someone is there who was not asked, or went -/
theorem rob {B R : Nat} {L T : Nat → Nat → Int} {rm : Nat → Nat} {wo mu : Nat → Option Nat} (hB6 : B ≤ 6) (hmu : Stb B R L T rm mu) {b r : Nat} (hb : b < B) (hr : r < R) (hw : wdO L T b r = true) (hwo : wo b = some r) (hc : cnt (inn wo r) B ≤ rm r) (hm : mu b = none ∨ ∃ r', mu b = some r' ∧ pbO L b r' < pbO L b r) :
    ∃ y, y < B ∧ mu y = some r ∧ ¬ wo y = some r ∧ wdO L T y r = true ∧ prO T b r < prO T y r := by
  have h3 := hmu.2.2 b r hb hr hw hm
  have hne : ¬ mu b = some r := fun q => by
    rcases hm with k | ⟨r', k1, k2⟩
    · rw [k] at q; cases q
    · rw [q] at k1; cases k1; omega
  obtain ⟨y, hy, hy1, hy2⟩ := pigeon (p := inn mu r) (q := inn wo r) (x := b) (B := B) (by omega) hb (by simp [inn, hwo]) (by simp [inn, hne])
  have e1 : mu y = some r := by simpa [inn] using hy1
  have e2 : ¬ wo y = some r := by simpa [inn] using hy2
  refine ⟨y, hy, e1, e2, (hmu.1 y r hy e1).2, ?_⟩
  have h4 := h3.2 y hy e1
  by_cases q : prO T b r = prO T y r
  · have := prO_inj (by omega) (by omega) q
    subst this
    exact absurd e1 hne
  · omega
theorem AskR.end {B R : Nat} {L T : Nat → Nat → Int} {rm : Nat → Nat} {wo : Nat → Option Nat} {X : Nat → Nat → Prop} (hB6 : B ≤ 6) (h : AskR B R L T rm wo X) (he : ∀ r, r < R → cnt (inn wo r) B = rm r ∨ ∀ b, b < B → wdO L T b r = true → X b r ∨ wo b = some r) :
    Stb B R L T rm wo ∧ ∀ mu, Stb B R L T rm mu → ∀ b r, b < B → wo b = some r → ∃ r', mu b = some r' ∧ pbO L b r ≤ pbO L b r' := by
  obtain ⟨h1, h2, h3, h4, h5⟩ := h
  refine ⟨⟨fun b r hb e => ⟨(h1 b r hb e).1, (h1 b r hb e).2.1⟩, h3, fun b r hb hr hw hm => ?_⟩, fun mu hmu b r hb e => ?_⟩
  · have nx : ¬ X b r := fun q => by
      obtain ⟨r', k1, k2⟩ := h2 b r hb hr q
      rcases hm with k | ⟨r2, k3, k4⟩
      · rw [k] at k1; cases k1
      · rw [k3] at k1; cases k1; omega
    have nw : ¬ wo b = some r := fun q => by
      rcases hm with k | ⟨r2, k3, k4⟩
      · rw [k] at q; cases q
      · rw [k3] at q; cases q; omega
    refine ⟨(he r hr).resolve_right (fun k => (k b hb hw).elim nx nw), fun m hm' e => ?_⟩
    have := h4 r m b hr hm' hb (Or.inr e) hw nx nw
    omega
  · have hr := h1 b r hb e
    by_cases q : ∃ r', mu b = some r' ∧ pbO L b r ≤ pbO L b r'
    · exact q
    · exfalso
      have hm : mu b = none ∨ ∃ r', mu b = some r' ∧ pbO L b r' < pbO L b r := by
        cases em : mu b with
        | none => exact Or.inl rfl
        | some r2 =>
          refine Or.inr ⟨r2, rfl, ?_⟩
          by_cases c : pbO L b r ≤ pbO L b r2
          · exact absurd ⟨r2, em, c⟩ q
          · omega
      obtain ⟨y, hy, y1, y2, y3, y4⟩ := rob hB6 hmu hb hr.1 hr.2.1 e (h3 r hr.1) hm
      by_cases c : X y r
      · exact h5 mu hmu y r hy hr.1 c y1
      · have := h4 r b y hr.1 hb hy (Or.inr e) y3 c y2
        omega
theorem cnt_off {wo : Nat → Option Nat} {b r r1 B : Nat} (h : r1 ≠ r) : cnt (inn (fun i => if i = b then some r else wo i) r1) B ≤ cnt (inn wo r1) B := cnt_mono (fun x _ e => inn_set h e)
theorem AskR.go {B R : Nat} {L T : Nat → Nat → Int} {rm : Nat → Nat} {wo : Nat → Option Nat} {X : Nat → Nat → Prop} (hB6 : B ≤ 6) (hR4 : R ≤ 4) (h : AskR B R L T rm wo X) {b r : Nat} (hb : b < B) (hr : r < R) (hw : wdO L T b r = true) (hx : ¬ X b r) (hne : ¬ wo b = some r) (hbest : ∀ b', b' < B → wdO L T b' r = true → ¬ X b' r → ¬ wo b' = some r → prO T b' r ≤ prO T b r) (hc : cnt (inn wo r) B < rm r)
    (hbt : ∀ r0, wo b = some r0 → pbO L b r0 < pbO L b r) : AskR B R L T rm (fun i => if i = b then some r else wo i) (fun b' r' => X b' r' ∨ (b' = b ∧ wo b = some r')) := by
  obtain ⟨h1, h2, h3, h4, h5⟩ := h
  have hca := cnt_add (wo := wo) (r := r) hb hne
  refine ⟨fun b' r1 hb' e => ?_, fun b' r1 hb' hr1 hX => ?_, fun r1 hr1 => ?_, fun r1 b1 b2 hr1 hb1 hb2 ha hw2 hx2 hn2 => ?_, fun mu hmu b' r1 hb' hr1 hX e => ?_⟩
  · by_cases q : b' = b
    · subst q
      simp at e
      subst e
      exact ⟨hr, hw, fun k => k.elim hx (fun k => hne k.2)⟩
    · simp [q] at e
      obtain ⟨k1, k2, k3⟩ := h1 b' r1 hb' e
      exact ⟨k1, k2, fun k => k.elim k3 (fun k => q k.1)⟩
  · rcases hX with k | ⟨rfl, k⟩
    · obtain ⟨r', k1, k2⟩ := h2 b' r1 hb' hr1 k
      by_cases q : b' = b
      · subst q
        have := hbt r' k1
        exact ⟨r, by simp, by omega⟩
      · exact ⟨r', by simp [q, k1], k2⟩
    · exact ⟨r, by simp, hbt r1 k⟩
  · by_cases q : r1 = r
    · subst q; rw [hca]; omega
    · exact Nat.le_trans (cnt_off q) (h3 r1 hr1)
  · have hx2' : ¬ X b2 r1 := fun k => hx2 (Or.inl k)
    have hn2' : ¬ wo b2 = some r1 := fun k => by
      by_cases q : b2 = b
      · exact hx2 (Or.inr ⟨q, by rw [← q]; exact k⟩)
      · exact hn2 (by simp [q, k])
    by_cases q : b1 = b ∧ r1 = r
    · obtain ⟨rfl, rfl⟩ := q
      have k := hbest b2 hb2 hw2 hx2' hn2'
      by_cases c : prO T b2 r1 = prO T b1 r1
      · have := prO_inj (by omega) (by omega) c
        subst this
        exact absurd (by simp) hn2
      · omega
    · refine h4 r1 b1 b2 hr1 hb1 hb2 ?_ hw2 hx2' hn2'
      rcases ha with (k | ⟨k1, k2⟩) | k
      · exact Or.inl k
      · exact Or.inr (by rw [k1]; exact k2)
      · by_cases q2 : b1 = b
        · subst q2; simp at k; exact absurd ⟨rfl, k.symm⟩ q
        · exact Or.inr (by simpa [q2] using k)
  · rcases hX with k | ⟨rfl, k⟩
    · exact h5 mu hmu b' r1 hb' hr1 k e
    · obtain ⟨y, hy, y1, y2, y3, y4⟩ := rob (wo := fun i => if i = b' then some r else wo i) hB6 hmu hb' hr hw (by simp) (by rw [hca]; omega) (Or.inr ⟨r1, e, hbt r1 k⟩)
      have yb : ¬ y = b' := fun q => y2 (by simp [q])
      have y2' : ¬ wo y = some r := fun q => y2 (by simp [yb, q])
      by_cases c : X y r
      · exact h5 mu hmu y r hy hr c y1
      · have := hbest y hy y3 c y2'
        omega
theorem AskR.no {B R : Nat} {L T : Nat → Nat → Int} {rm : Nat → Nat} {wo : Nat → Option Nat} {X : Nat → Nat → Prop} (hB6 : B ≤ 6) (h : AskR B R L T rm wo X) {b r r0 : Nat} (hb : b < B) (hr : r < R) (hw : wdO L T b r = true) (hbest : ∀ b', b' < B → wdO L T b' r = true → ¬ X b' r → ¬ wo b' = some r → prO T b' r ≤ prO T b r)
    (h0 : wo b = some r0) (hbt : pbO L b r < pbO L b r0) : AskR B R L T rm wo (fun b' r' => X b' r' ∨ (b' = b ∧ r' = r)) := by
  obtain ⟨h1, h2, h3, h4, h5⟩ := h
  refine ⟨fun b' r1 hb' e => ?_, fun b' r1 hb' hr1 hX => ?_, h3, fun r1 b1 b2 hr1 hb1 hb2 ha hw2 hx2 hn2 => ?_, fun mu hmu b' r1 hb' hr1 hX e => ?_⟩
  · obtain ⟨k1, k2, k3⟩ := h1 b' r1 hb' e
    refine ⟨k1, k2, fun k => k.elim k3 (fun k => ?_)⟩
    rw [k.1, h0] at e
    cases e
    rw [k.2] at hbt
    omega
  · rcases hX with k | ⟨rfl, rfl⟩
    · exact h2 b' r1 hb' hr1 k
    · exact ⟨r0, h0, hbt⟩
  · have hx2' : ¬ X b2 r1 := fun k => hx2 (Or.inl k)
    rcases ha with (k | ⟨rfl, rfl⟩) | k
    · exact h4 r1 b1 b2 hr1 hb1 hb2 (Or.inl k) hw2 hx2' hn2
    · have k := hbest b2 hb2 hw2 hx2' hn2
      by_cases c : prO T b2 r1 = prO T b1 r1
      · have := prO_inj (by omega) (by omega) c
        subst this
        exact absurd (Or.inr ⟨rfl, rfl⟩) hx2
      · omega
    · exact h4 r1 b1 b2 hr1 hb1 hb2 (Or.inr k) hw2 hx2' hn2
  · rcases hX with k | ⟨rfl, rfl⟩
    · exact h5 mu hmu b' r1 hb' hr1 k e
    · have k0 := h1 b' r0 hb' h0
      obtain ⟨y, hy, y1, y2, y3, y4⟩ := rob (wo := wo) hB6 hmu hb' k0.1 k0.2.1 h0 (h3 r0 k0.1) (Or.inr ⟨r1, e, hbt⟩)
      by_cases c : X y r0
      · exact h5 mu hmu y r0 hy k0.1 c y1
      · have := h4 r0 b' y k0.1 hb' hy (Or.inr h0) y3 c y2
        omega
/-- sums over rivers -/
def smr (f : Nat → Nat) : Nat → Nat
  | 0 => 0
  | n + 1 => smr f n + f n
theorem smr_le {f g : Nat → Nat} : ∀ {n : Nat}, (∀ r, r < n → f r ≤ g r) → smr f n ≤ smr g n
  | 0, _ => Nat.le_refl _
  | n + 1, h => Nat.add_le_add (smr_le (fun r hr => h r (Nat.lt_succ_of_lt hr))) (h n (Nat.lt_succ_self n))
theorem smr_add {f g : Nat → Nat} : ∀ {n : Nat}, smr (fun r => f r + g r) n = smr f n + smr g n
  | 0 => rfl
  | n + 1 => by simp only [smr, smr_add (n := n)]; omega
theorem smr_congr {f g : Nat → Nat} : ∀ {n : Nat}, (∀ r, r < n → f r = g r) → smr f n = smr g n
  | 0, _ => rfl
  | n + 1, h => by simp only [smr, smr_congr (n := n) (fun r hr => h r (Nat.lt_succ_of_lt hr)), h n (Nat.lt_succ_self n)]
theorem smr_zero : ∀ {n : Nat}, smr (fun _ => 0) n = 0
  | 0 => rfl
  | n + 1 => by simp only [smr, smr_zero (n := n)]
theorem smr_one {q : Nat} : ∀ {n : Nat}, smr (fun r => if q = r then 1 else 0) n = if q < n then 1 else 0
  | 0 => by simp [smr]
  | n + 1 => by
    simp only [smr, smr_one (n := n)]
    by_cases e : q = n
    · subst e; simp
    · by_cases e2 : q < n
      · rw [if_pos e2, if_neg e, if_pos (by omega)]
      · rw [if_neg e2, if_neg e, if_neg (by omega)]
theorem smr_cnt {wo : Nat → Option Nat} {R : Nat} : ∀ {B : Nat}, (∀ b r, b < B → wo b = some r → r < R) → smr (fun r => cnt (inn wo r) B) R = cnt (fun b => (wo b).isSome) B
  | 0, _ => smr_zero
  | B + 1, h => by
    have ih := smr_cnt (wo := wo) (R := R) (B := B) (fun b r hb => h b r (Nat.lt_succ_of_lt hb))
    cases e : wo B with
    | none =>
      have e1 : smr (fun r => cnt (inn wo r) (B + 1)) R = smr (fun r => cnt (inn wo r) B) R := smr_congr (fun r _ => by simp [cnt, inn, e])
      rw [e1, ih]
      simp [cnt, e]
    | some q =>
      have hq := h B q (Nat.lt_succ_self B) e
      have e1 : smr (fun r => cnt (inn wo r) (B + 1)) R = smr (fun r => cnt (inn wo r) B + (if q = r then 1 else 0)) R := smr_congr (fun r _ => by
        by_cases k : q = r
        · subst k; simp [cnt, inn, e]
        · simp [cnt, inn, e, k])
      rw [e1, smr_add, ih, smr_one, if_pos hq]
      simp [cnt, e]
/-- all choices that hold leave the same becks nowhere -/
theorem rural {B R : Nat} {L T : Nat → Nat → Int} {rm : Nat → Nat} {be wo mu : Nat → Option Nat} (hR4 : R ≤ 4) (hbe : Stb B R L T rm be) (hwo : Stb B R L T rm wo) (hmu : Stb B R L T rm mu)
    (h1 : ∀ b r, b < B → mu b = some r → ∃ r', be b = some r' ∧ pbO L b r ≤ pbO L b r') (h2 : ∀ b r, b < B → wo b = some r → ∃ r', mu b = some r' ∧ pbO L b r ≤ pbO L b r') : ∀ b, b < B → (be b).isSome = (mu b).isSome ∧ (wo b).isSome = (mu b).isSome := by
  have hle : smr (fun r => cnt (inn be r) B) R ≤ smr (fun r => cnt (inn wo r) B) R := smr_le (fun r hr => by
    by_cases c : cnt (inn wo r) B = rm r
    · rw [c]; exact hbe.2.1 r hr
    · refine cnt_mono (fun b hb e => ?_)
      have e' : be b = some r := by simpa [inn] using e
      have hb2 := hbe.1 b r hb e'
      by_cases q : wo b = some r
      · simp [inn, q]
      · exfalso
        apply c
        refine (hwo.2.2 b r hb hr hb2.2 ?_).1
        cases ew : wo b with
        | none => exact Or.inl rfl
        | some r2 =>
          refine Or.inr ⟨r2, rfl, ?_⟩
          obtain ⟨r3, k1, k2⟩ := h2 b r2 hb ew
          obtain ⟨r4, k3, k4⟩ := h1 b r3 hb k1
          rw [e'] at k3
          cases k3
          have hr2 := (hwo.1 b r2 hb ew).1
          by_cases c2 : pbO L b r2 = pbO L b r
          · have := pbO_inj (by omega) (by omega) c2
            subst this
            exact absurd ew q
          · omega)
  rw [smr_cnt (fun b r hb e => (hbe.1 b r hb e).1), smr_cnt (fun b r hb e => (hwo.1 b r hb e).1)] at hle
  have wm : ∀ b, b < B → (wo b).isSome = true → (mu b).isSome = true := fun b hb e => by
    obtain ⟨r, er⟩ := Option.isSome_iff_exists.mp e
    obtain ⟨r', k, _⟩ := h2 b r hb er
    rw [k]; rfl
  have mb : ∀ b, b < B → (mu b).isSome = true → (be b).isSome = true := fun b hb e => by
    obtain ⟨r, er⟩ := Option.isSome_iff_exists.mp e
    obtain ⟨r', k, _⟩ := h1 b r hb er
    rw [k]; rfl
  have bw : ∀ b, b < B → (be b).isSome = true → (wo b).isSome = true := fun b hb e => by
    cases q : (wo b).isSome
    · exfalso
      have := cnt_lt (p := fun b => (wo b).isSome) (q := fun b => (be b).isSome) hb e q (fun y hy k => mb y hy (wm y hy k))
      omega
    · rfl
  intro b hb
  cases e1 : (be b).isSome
  · have e2 : (mu b).isSome = false := by
      cases q : (mu b).isSome
      · rfl
      · rw [mb b hb q] at e1; cases e1
    have e3 : (wo b).isSome = false := by
      cases q : (wo b).isSome
      · rfl
      · rw [wm b hb q] at e2; cases e2
    rw [e2, e3]; exact ⟨rfl, rfl⟩
  · have e3 := bw b hb e1
    have e2 := wm b hb e3
    rw [e2, e3]; exact ⟨rfl, rfl⟩
