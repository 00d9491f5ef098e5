/-! ===== which choices hold: what is true of all of them ===== -/
theorem adm_iff {B : Nat} {T : Nat → Nat → Int} {rm : Nat → Nat} {wo : Nat → Option Nat} {b r : Nat} : adm B T rm wo b r = true ↔ (cnt (inn wo r) B < rm r ∨ ∃ m, m < B ∧ wo m = some r ∧ prO T m r < prO T b r) := by
  unfold adm
  rw [Bool.or_eq_true, decide_eq_true_eq]
  refine or_congr Iff.rfl ?_
  cases e : lst (inn wo r) (fun b' => prO T b' r) B with
  | none =>
    constructor
    · intro h; cases h
    · rintro ⟨m, h1, h2, _⟩
      have := lst_none e m h1
      simp [inn, h2] at this
  | some m =>
    dsimp only
    rw [decide_eq_true_eq]
    have h1 := lst_lt e
    refine ⟨fun h => ⟨m, h1.1, by have := h1.2; simpa [inn] using this, h⟩, fun ⟨m', k1, k2, k3⟩ => ?_⟩
    have := lst_min e m' k1 (by simp [inn, k2])
    omega
theorem cnt_lt {p q : Nat → Bool} {B x : Nat} (hx : x < B) (hq : q x = true) (hp : p x = false) (h : ∀ y, y < B → p y = true → q y = true) : cnt p B < cnt q B := by
  have h1 := cnt_clr hx hq
  have h2 : cnt p B ≤ cnt (fun b => q b && !decide (b = x)) B := cnt_mono (fun y hy e => by
    have : ¬ y = x := fun q => by rw [q, hp] at e; cases e
    simp [h y hy e, this])
  omega
/-- of two sets, one no greater than the other: if it has one more, it lacks one -/
theorem pigeon {p q : Nat → Bool} {B x : Nat} (hc : cnt q B ≤ cnt p B) (hx : x < B) (hq : q x = true) (hp : p x = false) : ∃ y, y < B ∧ p y = true ∧ q y = false := by
  by_cases h : ∃ y, y < B ∧ p y = true ∧ q y = false
  · exact h
  · exfalso
    have := cnt_lt hx hq hp (fun y hy e => by
      cases e2 : q y
      · exact absurd ⟨y, hy, e, e2⟩ h
      · rfl)
    omega
/-- a choice that holds, and has room -/
def Stb (B R : Nat) (L T : Nat → Nat → Int) (rm : Nat → Nat) (wo : Nat → Option Nat) : Prop := (∀ b r, b < B → wo b = some r → r < R ∧ wdO L T b r = true) ∧ (∀ r, r < R → cnt (inn wo r) B ≤ rm r) ∧ ∀ b r, b < B → r < R → wdO L T b r = true → (wo b = none ∨ ∃ r', wo b = some r' ∧ pbO L b r' < pbO L b r) → cnt (inn wo r) B = rm r ∧ ∀ m, m < B → wo m = some r → prO T b r ≤ prO T m r
theorem mov_iff {L : Nat → Nat → Int} {wo : Nat → Option Nat} {b r : Nat} : mov L wo b r = true ↔ (wo b = none ∨ ∃ r', wo b = some r' ∧ pbO L b r' < pbO L b r) := by
  unfold mov
  cases e : wo b with
  | none => simp
  | some r' =>
    simp only [Bool.and_eq_true, decide_eq_true_eq, Bool.not_eq_true', beq_eq_false_iff_ne, ne_eq]
    constructor
    · intro h; exact Or.inr ⟨r', rfl, h.2⟩
    · rintro (h | ⟨r2, h1, h2⟩)
      · cases h
      · cases h1
        exact ⟨fun q => by subst q; omega, h2⟩
theorem Stb_iff {B R : Nat} {L T : Nat → Nat → Int} {rm : Nat → Nat} {wo : Nat → Option Nat} (hw : ∀ b r, b < B → wo b = some r → r < R) (hf : ∀ r, r < R → cnt (inn wo r) B ≤ rm r) : heldS B R L T rm wo = true ↔ Stb B R L T rm wo := by
  unfold heldS
  rw [alln_iff]
  constructor
  · intro h
    refine ⟨fun b r hb e => ⟨hw b r hb e, ?_⟩, hf, fun b r hb hr hwd hm => ?_⟩
    · have := h b hb
      rw [Bool.and_eq_true] at this
      have := this.1
      simpa [wnt, e] using this
    · have := h b hb
      rw [Bool.and_eq_true, alln_iff] at this
      have := this.2 r hr
      have hb2 : brk B L T rm wo b r = false := by simpa using this
      have hadm : adm B T rm wo b r = false := by
        unfold brk at hb2
        rw [hwd, mov_iff.mpr hm] at hb2
        simpa using hb2
      have hn : ¬ adm B T rm wo b r = true := by rw [hadm]; decide
      rw [adm_iff] at hn
      have := hf r hr
      refine ⟨by omega, fun m hm' e => ?_⟩
      by_cases q : prO T m r < prO T b r
      · exact absurd (Or.inr ⟨m, hm', e, q⟩) hn
      · omega
  · intro h b hb
    rw [Bool.and_eq_true, alln_iff]
    refine ⟨?_, fun r hr => ?_⟩
    · unfold wnt
      cases e : wo b with
      | none => rfl
      | some r => exact (h.1 b r hb e).2
    · cases q : brk B L T rm wo b r
      · rfl
      · exfalso
        unfold brk at q
        rw [Bool.and_eq_true, Bool.and_eq_true] at q
        have h3 := h.2.2 b r hb hr q.1.1 (mov_iff.mp q.1.2)
        have := adm_iff.mp q.2
        rcases this with k | ⟨m, k1, k2, k3⟩
        · omega
        · have := h3.2 m k1 k2
          omega
/-- becks ask: what is true all along. X: who has been sent off, and by which river -/
def AskB (B R : Nat) (L T : Nat → Nat → Int) (rm : Nat → Nat) (wo : Nat → Option Nat) (X : Nat → Nat → Prop) : Prop :=
  (∀ b r, b < B → wo b = some r → r < R ∧ wdO L T b r = true ∧ ¬ X b r ∧ ∀ r', r' < R → wdO L T b r' = true → pbO L b r < pbO L b r' → X b r') ∧
  (∀ r, r < R → cnt (inn wo r) B ≤ rm r) ∧
  (∀ b r, b < B → r < R → X b r → cnt (inn wo r) B = rm r ∧ ∀ m, m < B → wo m = some r → prO T b r < prO T m r) ∧
  ∀ mu, Stb B R L T rm mu → ∀ b r, b < B → r < R → X b r → ¬ mu b = some r
theorem AskB.end {B R : Nat} {L T : Nat → Nat → Int} {rm : Nat → Nat} {wo : Nat → Option Nat} {X : Nat → Nat → Prop} (h : AskB B R L T rm wo X) (he : ∀ b r, b < B → r < R → wo b = none → wdO L T b r = true → X b r) :
    Stb B R L T rm wo ∧ ∀ mu, Stb B R L T rm mu → ∀ b r, b < B → mu b = some r → ∃ r', wo b = some r' ∧ pbO L b r ≤ pbO L b r' := by
  obtain ⟨h1, h2, h3, h4⟩ := h
  refine ⟨⟨fun b r hb e => ⟨(h1 b r hb e).1, (h1 b r hb e).2.1⟩, h2, fun b r hb hr hw hm => ?_⟩, fun mu hmu b r hb e => ?_⟩
  · have hX : X b r := by
      rcases hm with q | ⟨r', q1, q2⟩
      · exact he b r hb hr q hw
      · exact (h1 b r' hb q1).2.2.2 r hr hw q2
    have := h3 b r hb hr hX
    exact ⟨this.1, fun m hm' e => by have := this.2 m hm' e; omega⟩
  · have hr := hmu.1 b r hb e
    have hnX : ¬ X b r := fun q => h4 mu hmu b r hb hr.1 q e
    cases q : wo b with
    | none => exact absurd (he b r hb hr.1 q hr.2) hnX
    | some r' =>
      refine ⟨r', rfl, ?_⟩
      by_cases c : pbO L b r' < pbO L b r
      · exact absurd ((h1 b r' hb q).2.2.2 r hr.1 hr.2 c) hnX
      · omega
theorem pbO_inj {L : Nat → Nat → Int} {b r r' : Nat} (hr : r < 4) (hr' : r' < 4) (h : pbO L b r = pbO L b r') : r = r' := by unfold pbO at h; omega
theorem inn_ne {wo : Nat → Option Nat} {b r r1 : Nat} (hn : wo b = none) (h : r1 ≠ r) : inn (fun i => if i = b then some r else wo i) r1 = inn wo r1 := by
  funext x
  by_cases e : x = b
  · subst e; simp [inn, hn, Ne.symm h]
  · simp [inn, e]
theorem AskB.in_ {B R : Nat} {L T : Nat → Nat → Int} {rm : Nat → Nat} {wo : Nat → Option Nat} {X : Nat → Nat → Prop} (h : AskB B R L T rm wo X) {b r : Nat} (hb : b < B) (hr : r < R) (hn : wo b = none) (hw : wdO L T b r = true) (hx : ¬ X b r) (hbest : ∀ r', r' < R → wdO L T b r' = true → ¬ X b r' → pbO L b r' ≤ pbO L b r) (hc : cnt (inn wo r) B < rm r) :
    AskB B R L T rm (fun i => if i = b then some r else wo i) X := by
  obtain ⟨h1, h2, h3, h4⟩ := h
  have hca := cnt_add (wo := wo) (r := r) hb (by rw [hn]; simp)
  refine ⟨fun b' r1 hb' e => ?_, fun r1 hr1 => ?_, fun b' r1 hb' hr1 hX => ?_, h4⟩
  · by_cases q : b' = b
    · subst q
      simp at e
      subst e
      exact ⟨hr, hw, hx, fun r' hr' hw' hlt => Classical.byContradiction (fun k => by have := hbest r' hr' hw' k; omega)⟩
    · simp [q] at e
      exact h1 b' r1 hb' e
  · by_cases q : r1 = r
    · subst q; rw [hca]; omega
    · rw [inn_ne hn q]; exact h2 r1 hr1
  · have := h3 b' r1 hb' hr1 hX
    by_cases q : r1 = r
    · subst q; omega
    · rw [inn_ne hn q]
      refine ⟨this.1, fun m hm e => this.2 m hm ?_⟩
      by_cases q2 : m = b
      · subst q2; simp at e; exact absurd e.symm q
      · simpa [q2] using e
theorem AskB.out {B R : Nat} {L T : Nat → Nat → Int} {rm : Nat → Nat} {wo : Nat → Option Nat} {X : Nat → Nat → Prop} (hR4 : R ≤ 4) (h : AskB B R L T rm wo X) {b r o : Nat} (hb : b < B) (hr : r < R) (hn : wo b = none) (hw : wdO L T b r = true) (hx : ¬ X b r) (hbest : ∀ r', r' < R → wdO L T b r' = true → ¬ X b r' → pbO L b r' ≤ pbO L b r) (hc : cnt (inn wo r) B = rm r)
    (ho : o < B) (ho1 : o = b ∨ wo o = some r) (ho2 : ∀ m, m < B → (m = b ∨ wo m = some r) → m ≠ o → prO T o r < prO T m r) :
    AskB B R L T rm (fun i => if i = o then none else if i = b then some r else wo i) (fun b' r' => X b' r' ∨ (b' = o ∧ r' = r)) := by
  obtain ⟨h1, h2, h3, h4⟩ := h
  have hca := cnt_add (wo := wo) (r := r) hb (by rw [hn]; simp)
  have hob : inn (fun i => if i = b then some r else wo i) r o = true := by
    rcases ho1 with q | q
    · simp [inn, q]
    · simp [inn, q]
  have hcl := cnt_clr (p := inn (fun i => if i = b then some r else wo i) r) ho hob
  rw [inn_clr] at hcl
  have mem : ∀ m r1, (if m = o then none else if m = b then some r else wo m) = some r1 → m ≠ o ∧ ((m = b ∧ r1 = r) ∨ (m ≠ b ∧ wo m = some r1)) := fun m r1 e => by
    by_cases q : m = o
    · simp [q] at e
    · by_cases q2 : m = b
      · subst q2; simp [q] at e; exact ⟨q, Or.inl ⟨rfl, e.symm⟩⟩
      · simp [q, q2] at e; exact ⟨q, Or.inr ⟨q2, e⟩⟩
  have top : ∀ b' r1, b' < B → (if b' = o then none else if b' = b then some r else wo b') = some r1 → r1 < R ∧ wdO L T b' r1 = true ∧ ¬ X b' r1 ∧ ∀ r', r' < R → wdO L T b' r' = true → pbO L b' r1 < pbO L b' r' → X b' r' := fun b' r1 hb' e => by
    rcases (mem b' r1 e).2 with ⟨rfl, rfl⟩ | ⟨q, e2⟩
    · exact ⟨hr, hw, hx, fun r' hr' hw' hlt => Classical.byContradiction (fun k => by have := hbest r' hr' hw' k; omega)⟩
    · exact h1 b' r1 hb' e2
  have same : ∀ r1, r1 ≠ r → inn (fun i => if i = o then none else if i = b then some r else wo i) r1 = inn wo r1 := fun r1 q => by
    funext x
    by_cases e : x = o
    · subst e
      rcases ho1 with k | k
      · subst k; simp [inn, hn]
      · simp [inn, k, Ne.symm q]
    · by_cases e2 : x = b
      · subst e2; simp [inn, e, hn, Ne.symm q]
      · simp [inn, e, e2]
  refine ⟨fun b' r1 hb' e => ?_, fun r1 hr1 => ?_, fun b' r1 hb' hr1 hX => ?_, fun mu hmu b' r1 hb' hr1 hX e => ?_⟩
  · obtain ⟨t1, t2, t3, t4⟩ := top b' r1 hb' e
    exact ⟨t1, t2, fun k => k.elim t3 (fun k => (mem b' r1 e).1 k.1), fun r' hr' hw' hlt => Or.inl (t4 r' hr' hw' hlt)⟩
  · by_cases q : r1 = r
    · subst q; omega
    · rw [same r1 q]; exact h2 r1 hr1
  · by_cases q : r1 = r
    · subst q
      refine ⟨by omega, fun m hm e => ?_⟩
      have hm2 := mem m r1 e
      have hmo : prO T o r1 < prO T m r1 := ho2 m hm (hm2.2.imp (fun k => k.1) (fun k => k.2)) hm2.1
      rcases hX with k | k
      · have k3 := (h3 b' r1 hb' hr1 k).2
        rcases hm2.2 with k4 | k4
        · rcases ho1 with k5 | k5
          · exact absurd (k4.1.trans k5.symm) hm2.1
          · have := k3 o ho k5
            omega
        · exact k3 m hm k4.2
      · rw [k.1]; exact hmo
    · rw [same r1 q]
      have k : X b' r1 := hX.elim id (fun k => absurd k.2 q)
      refine ⟨(h3 b' r1 hb' hr1 k).1, fun m hm e => (h3 b' r1 hb' hr1 k).2 m hm ?_⟩
      rcases (mem m r1 e).2 with k4 | k4
      · exact absurd k4.2 q
      · exact k4.2
  · rcases hX with k | ⟨rfl, rfl⟩
    · exact h4 mu hmu b' r1 hb' hr1 k e
    · obtain ⟨y, hy, hy1, hy2⟩ := pigeon (p := inn (fun i => if i = b' then none else if i = b then some r1 else wo i) r1) (q := inn mu r1) (x := b') (B := B) (by have := hmu.2.1 r1 hr1; omega) hb' (by simp [inn, e]) (by simp [inn])
      have hy1' : (if y = b' then none else if y = b then some r1 else wo y) = some r1 := by simpa [inn] using hy1
      have hyo := mem y r1 hy1'
      obtain ⟨t1, t2, t3, t4⟩ := top y r1 hy hy1'
      have hlt : prO T b' r1 < prO T y r1 := ho2 y hy (hyo.2.imp (fun k => k.1) (fun k => k.2)) hyo.1
      have hmv : mu y = none ∨ ∃ r', mu y = some r' ∧ pbO L y r' < pbO L y r1 := by
        cases em : mu y with
        | none => exact Or.inl rfl
        | some r2 =>
          refine Or.inr ⟨r2, rfl, ?_⟩
          have hm2 := hmu.1 y r2 hy em
          by_cases c1 : pbO L y r1 < pbO L y r2
          · exact absurd em (h4 mu hmu y r2 hy hm2.1 (t4 r2 hm2.1 hm2.2 c1))
          · by_cases c2 : pbO L y r2 = pbO L y r1
            · have := pbO_inj (by omega) (by omega) c2
              subst this
              simp [inn, em] at hy2
            · omega
      have := (hmu.2.2 y r1 hy hr1 t2 hmv).2 b' hb' e
      omega
