/-! ===== one best, one worst; markets that order alike ===== -/
theorem best_uniq {B R : Nat} {L T : Nat → Nat → Int} {rm : Nat → Nat} {wo wo' : Nat → Option Nat} (hR4 : R ≤ 4) (h1 : Stb B R L T rm wo) (h2 : Stb B R L T rm wo') (k1 : ∀ mu, Stb B R L T rm mu → ∀ b r, b < B → mu b = some r → ∃ r', wo b = some r' ∧ pbO L b r ≤ pbO L b r') (k2 : ∀ mu, Stb B R L T rm mu → ∀ b r, b < B → mu b = some r → ∃ r', wo' b = some r' ∧ pbO L b r ≤ pbO L b r') : ∀ b, b < B → wo b = wo' b := by
  intro b hb
  cases e : wo b with
  | none =>
    cases e' : wo' b with
    | none => rfl
    | some r' =>
      obtain ⟨r, q, _⟩ := k1 wo' h2 b r' hb e'
      rw [e] at q; cases q
  | some r =>
    obtain ⟨r', q1, q2⟩ := k2 wo h1 b r hb e
    obtain ⟨r2, q3, q4⟩ := k1 wo' h2 b r' hb q1
    rw [e] at q3
    cases q3
    have hr := (h1.1 b r hb e).1
    have hr' := (h2.1 b r' hb q1).1
    rw [q1, pbO_inj (L := L) (b := b) (by omega) (by omega) (by omega : pbO L b r = pbO L b r')]
theorem worst_uniq {B R : Nat} {L T : Nat → Nat → Int} {rm : Nat → Nat} {wo wo' : Nat → Option Nat} (hR4 : R ≤ 4) (h1 : Stb B R L T rm wo) (h2 : Stb B R L T rm wo') (k1 : ∀ mu, Stb B R L T rm mu → ∀ b r, b < B → wo b = some r → ∃ r', mu b = some r' ∧ pbO L b r ≤ pbO L b r') (k2 : ∀ mu, Stb B R L T rm mu → ∀ b r, b < B → wo' b = some r → ∃ r', mu b = some r' ∧ pbO L b r ≤ pbO L b r') : ∀ b, b < B → wo b = wo' b := by
  intro b hb
  cases e : wo b with
  | none =>
    cases e' : wo' b with
    | none => rfl
    | some r' =>
      obtain ⟨r, q, _⟩ := k2 wo h1 b r' hb e'
      rw [e] at q; cases q
  | some r =>
    obtain ⟨r', q1, q2⟩ := k1 wo' h2 b r hb e
    obtain ⟨r2, q3, q4⟩ := k2 wo h1 b r' hb q1
    rw [e] at q3
    cases q3
    have hr := (h1.1 b r hb e).1
    have hr' := (h2.1 b r' hb q1).1
    rw [q1, pbO_inj (L := L) (b := b) (by omega) (by omega) (by omega : pbO L b r = pbO L b r')]
/-- two markets in which both would at the same places, and order alike where both would -/
def Like (B R : Nat) (L T L' T' : Nat → Nat → Int) : Prop := (∀ b r, b < B → r < R → wdO L T b r = wdO L' T' b r) ∧ (∀ b r r', b < B → r < R → r' < R → wdO L T b r = true → wdO L T b r' = true → (pbO L b r < pbO L b r' ↔ pbO L' b r < pbO L' b r')) ∧ ∀ b b' r, b < B → b' < B → r < R → wdO L T b r = true → wdO L T b' r = true → (prO T b r < prO T b' r ↔ prO T' b r < prO T' b' r)
theorem Like.symm {B R : Nat} {L T L' T' : Nat → Nat → Int} (h : Like B R L T L' T') : Like B R L' T' L T := ⟨fun b r hb hr => (h.1 b r hb hr).symm, fun b r r' hb hr hr' w1 w2 => (h.2.1 b r r' hb hr hr' (by rw [h.1 b r hb hr]; exact w1) (by rw [h.1 b r' hb hr']; exact w2)).symm, fun b b' r hb hb' hr w1 w2 => (h.2.2 b b' r hb hb' hr (by rw [h.1 b r hb hr]; exact w1) (by rw [h.1 b' r hb' hr]; exact w2)).symm⟩
theorem Stb.like {B R : Nat} {L T L' T' : Nat → Nat → Int} {rm : Nat → Nat} {wo : Nat → Option Nat} (h : Stb B R L T rm wo) (k : Like B R L T L' T') : Stb B R L' T' rm wo := by
  obtain ⟨h1, h2, h3⟩ := h
  refine ⟨fun b r hb e => ⟨(h1 b r hb e).1, by rw [← k.1 b r hb (h1 b r hb e).1]; exact (h1 b r hb e).2⟩, h2, fun b r hb hr hw hm => ?_⟩
  have hw' : wdO L T b r = true := by rw [k.1 b r hb hr]; exact hw
  have hm' : wo b = none ∨ ∃ r', wo b = some r' ∧ pbO L b r' < pbO L b r := hm.imp id (fun ⟨r', q1, q2⟩ => ⟨r', q1, (k.2.1 b r' r hb (h1 b r' hb q1).1 hr (h1 b r' hb q1).2 hw').mpr q2⟩)
  have := h3 b r hb hr hw' hm'
  refine ⟨this.1, fun m hm2 e => ?_⟩
  have t := this.2 m hm2 e
  by_cases c : prO T' m r < prO T' b r
  · have := (k.2.2 m b r hm2 hb hr (h1 m r hm2 e).2 hw').mpr c
    omega
  · omega
/-- the best of one market is the best of one that orders alike -/
theorem best_like {B R : Nat} {L T L' T' : Nat → Nat → Int} {rm : Nat → Nat} {wo wo' : Nat → Option Nat} (hR4 : R ≤ 4) (k : Like B R L T L' T') (h1 : Stb B R L T rm wo) (h2 : Stb B R L' T' rm wo') (k1 : ∀ mu, Stb B R L T rm mu → ∀ b r, b < B → mu b = some r → ∃ r', wo b = some r' ∧ pbO L b r ≤ pbO L b r') (k2 : ∀ mu, Stb B R L' T' rm mu → ∀ b r, b < B → mu b = some r → ∃ r', wo' b = some r' ∧ pbO L' b r ≤ pbO L' b r') : ∀ b, b < B → wo b = wo' b := by
  have h2' : Stb B R L T rm wo' := h2.like k.symm
  refine best_uniq hR4 h1 h2' k1 (fun mu hmu b r hb e => ?_)
  obtain ⟨r', q1, q2⟩ := k2 mu (hmu.like k) b r hb e
  refine ⟨r', q1, ?_⟩
  by_cases c : pbO L b r' < pbO L b r
  · have := (k.2.1 b r' r hb (h2'.1 b r' hb q1).1 (hmu.1 b r hb e).1 (h2'.1 b r' hb q1).2 (hmu.1 b r hb e).2).mp c
    omega
  · omega
/-- what a longer lie gets, telling that river alone gets too -/
theorem lie_alone {B R : Nat} {L L' L1 T : Nat → Nat → Int} {rm : Nat → Nat} {mu wo be : Nat → Option Nat} {b r : Nat} (hR4 : R ≤ 4) (hb : b < B)
    (ho : ∀ b' r', b' < B → ¬ b' = b → L' b' r' = L b' r' ∧ L1 b' r' = L b' r') (hl : ∀ r', r' < R → (0 < L1 b r' ↔ r' = r))
    (hmu : Stb B R L' T rm mu) (hmb : mu b = some r) (hwo : Stb B R L1 T rm wo) (hbe : Stb B R L1 T rm be)
    (k1 : ∀ nu, Stb B R L1 T rm nu → ∀ b r, b < B → nu b = some r → ∃ r', be b = some r' ∧ pbO L1 b r ≤ pbO L1 b r') (k2 : ∀ nu, Stb B R L1 T rm nu → ∀ b r, b < B → wo b = some r → ∃ r', nu b = some r' ∧ pbO L1 b r ≤ pbO L1 b r') : wo b = some r := by
  obtain ⟨h1, h2, h3⟩ := hmu
  have hr := (h1 b r hb hmb).1
  have hT : 0 < T b r := by
    have := (h1 b r hb hmb).2
    simp [wdO] at this
    exact this.2
  have same : ∀ b' r', b' < B → ¬ b' = b → wdO L1 T b' r' = wdO L' T b' r' ∧ pbO L1 b' r' = pbO L' b' r' := fun b' r' hb' q => by
    have := ho b' r' hb' q
    unfold wdO pbO
    rw [this.1, this.2]
    exact ⟨rfl, rfl⟩
  have hs : Stb B R L1 T rm mu := by
    refine ⟨fun b' r' hb' e => ?_, h2, fun b' r' hb' hr' hw hm => ?_⟩
    · by_cases q : b' = b
      · subst q
        rw [hmb] at e
        cases e
        refine ⟨hr, ?_⟩
        have := (hl r hr).mpr rfl
        simp [wdO, this, hT]
      · rw [(same b' r' hb' q).1]
        exact h1 b' r' hb' e
    · by_cases q : b' = b
      · subst q
        exfalso
        have hw' : 0 < L1 b' r' := by
          simp [wdO] at hw
          exact hw.1
        have e := (hl r' hr').mp hw'
        subst e
        rcases hm with q | ⟨r2, q1, q2⟩
        · rw [hmb] at q; cases q
        · rw [hmb] at q1
          cases q1
          omega
      · rw [(same b' r' hb' q).1] at hw
        refine h3 b' r' hb' hr' hw (hm.imp id (fun ⟨r2, q1, q2⟩ => ⟨r2, q1, ?_⟩))
        rw [(same b' r2 hb' q).2, (same b' r' hb' q).2] at q2
        exact q2
  have hru := (rural hR4 hbe hwo hs (k1 mu hs) (k2 mu hs) b hb).2
  rw [hmb] at hru
  obtain ⟨r', e⟩ := Option.isSome_iff_exists.mp (show (wo b).isSome = true from hru)
  have hw := hwo.1 b r' hb e
  have : 0 < L1 b r' := by
    have := hw.2
    simp [wdO] at this
    exact this.1
  rw [e, (hl r' hw.1).mp this]
