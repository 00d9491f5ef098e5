/-! ===== lies: the class's side ===== -/
def alone (b r0 : Nat) (L : Nat → Nat → Int) : Nat → Nat → Int := fun x y => if x = b then (if y = r0 then 1 else 0) else L x y
def gts (B R : Nat) (L T : Nat → Nat → Int) (rm : Nat → Nat) (b r : Nat) : Prop := ∃ wo, Worst B R (alone b r L) T rm wo ∧ wo b = some r
theorem gts_iff {B R : Nat} {L T : Nat → Nat → Int} {rm : Nat → Nat} {b r : Nat} {wo : Nat → Option Nat} (hR4 : R ≤ 4) (hb : b < B) (h : Worst B R (alone b r L) T rm wo) : gts B R L T rm b r ↔ wo b = some r := by
  constructor
  · rintro ⟨wo', h1, h2⟩
    rw [worst_uniq hR4 h.1 h1.1 h.2 h1.2 b hb]
    exact h2
  · exact fun e => ⟨wo, h, e⟩
def GS (B R : Nat) (L T : Nat → Nat → Int) (rm : Nat → Nat) (b : Nat) (t : Option Nat) (r : Nat) : Prop := r < R ∧ wdO L T b r = true ∧ (∀ t0, t = some t0 → pbO L b t0 < pbO L b r) ∧ gts B R L T rm b r
def isGain (B R : Nat) (L T : Nat → Nat → Int) (rm : Nat → Nat) (b : Nat) (t : Option Nat) : Option Nat → Prop
  | none => ∀ r, ¬ GS B R L T rm b t r
  | some r => GS B R L T rm b t r ∧ ∀ r', GS B R L T rm b t r' → pbO L b r' ≤ pbO L b r
theorem gain_uniq {B R : Nat} {L T : Nat → Nat → Int} {rm : Nat → Nat} {b : Nat} {t g g' : Option Nat} (hR4 : R ≤ 4) (h : isGain B R L T rm b t g) (h' : isGain B R L T rm b t g') : g = g' := by
  cases g with
  | none =>
    cases g' with
    | none => rfl
    | some r => exact absurd h'.1 (h r)
  | some r =>
    cases g' with
    | none => exact absurd h.1 (h' r)
    | some r' =>
      have h1 := h.2 r' h'.1
      have h2 := h'.2 r h.1
      have h3 := h.1.1
      have h4 := h'.1.1
      rw [pbO_inj (L := L) (b := b) (show r < 4 by omega) (show r' < 4 by omega) (by omega)]
theorem SLp.copy {mi mi' : TMi} {lk tk bo ro mu lk' tk' bo' ro' mu' B R : Nat} {P : Nat → Nat → Prop} {L T : Nat → Nat → Int} (h : SLp mi lk tk bo ro mu B R P L T) (hB : B ≤ 6) (hR : R ≤ 4) (e1 : ∀ k, k < 24 → mi' lk' k = mi lk k) (e2 : ∀ k, k < 24 → mi' tk' k = mi tk k) (e3 : ∀ k, k < 24 → mi' bo' k = mi bo k) (e4 : ∀ k, k < 24 → mi' ro' k = mi ro k) (e5 : ∀ k, k < 6 → mi' mu' k = mi mu k) : SLp mi' lk' tk' bo' ro' mu' B R P L T := by
  refine ⟨fun b r hb hr hp => ?_, fun b hb => ?_⟩
  · rw [e1 _ (by omega), e2 _ (by omega), e3 _ (by omega), e4 _ (by omega)]
    exact h.1 b r hb hr hp
  · rw [e5 b (by omega)]
    exact h.2 b hb
theorem cp_lt {mi : TMi} {s t n k : Nat} (h : k < n) : cpF mi s t 0 0 n t k = mi s k := by
  rw [cp_at]
  show (if k < n then mi s k else mi t k) = _
  rw [if_pos h]
theorem c_trial {l : Launch} {h : Nat} {mi : TMi} {ml : TMl} {z : Nat} {a : Ln} {d : Dt} {Q : TMi → TMl → Nat → Prop} (hA : CA mi a d) (hq : ∀ mi', Fr [34, 35, 36, 37, 38, 39] mi mi' → Cs (mi' 34) d → SL_33 mi' a d → Q mi' ml z) : CV l (h + 1) m_Sc_copyFrom [.ref 33, .ref 17] mi ml z Q := by
  refine t_Sc_copyFrom_33_17 mi ml z (hq _ ?_ ?_ ?_)
  · exact ((((((Fr_cp _ _ _ _ _ _).weak (by simp)).step ((Fr_cp _ _ _ _ _ _).weak (by simp))).step ((Fr_cp _ _ _ _ _ _).weak (by simp))).step ((Fr_cp _ _ _ _ _ _).weak (by simp))).step ((Fr_cp _ _ _ _ _ _).weak (by simp))).step ((Fr_cp _ _ _ _ _ _).weak (by simp))
  · refine hA.2.2.2.1.ext (fun k hk => ?_)
    rw [cp_ne _ _ _ _ _ _ (by decide), cp_ne _ _ _ _ _ _ (by decide), cp_ne _ _ _ _ _ _ (by decide), cp_ne _ _ _ _ _ _ (by decide), cp_ne _ _ _ _ _ _ (by decide), cp_lt hk]
  · refine hA.2.2.2.2.copy hA.1.1 hA.1.2.1 (fun k hk => ?_) (fun k hk => ?_) (fun k hk => ?_) (fun k hk => ?_) (fun k hk => ?_)
    · rw [cp_ne _ _ _ _ _ _ (by decide), cp_ne _ _ _ _ _ _ (by decide), cp_ne _ _ _ _ _ _ (by decide), cp_ne _ _ _ _ _ _ (by decide), cp_lt hk, cp_ne _ _ _ _ _ _ (by decide)]
    · rw [cp_ne _ _ _ _ _ _ (by decide), cp_ne _ _ _ _ _ _ (by decide), cp_ne _ _ _ _ _ _ (by decide), cp_lt hk, cp_ne _ _ _ _ _ _ (by decide), cp_ne _ _ _ _ _ _ (by decide)]
    · rw [cp_ne _ _ _ _ _ _ (by decide), cp_ne _ _ _ _ _ _ (by decide), cp_lt hk, cp_ne _ _ _ _ _ _ (by decide), cp_ne _ _ _ _ _ _ (by decide), cp_ne _ _ _ _ _ _ (by decide)]
    · rw [cp_ne _ _ _ _ _ _ (by decide), cp_lt hk, cp_ne _ _ _ _ _ _ (by decide), cp_ne _ _ _ _ _ _ (by decide), cp_ne _ _ _ _ _ _ (by decide), cp_ne _ _ _ _ _ _ (by decide)]
    · rw [cp_lt hk, cp_ne _ _ _ _ _ _ (by decide), cp_ne _ _ _ _ _ _ (by decide), cp_ne _ _ _ _ _ _ (by decide), cp_ne _ _ _ _ _ _ (by decide), cp_ne _ _ _ _ _ _ (by decide)]
theorem Cs.rm {g : Nat → Int32} {a : Ln} {d : Dt} (h : Cs g d) (ha : okLn a) (hd : okD a d) : ∀ r, r < nR a → g (12 + r) = nI (dR d r) ∧ dR d r < 100 := fun r hr => by
  have := ha.2.1
  have := (hd.2.2.1 r).1
  exact ⟨h.2.2.1 r (by omega), by omega⟩
theorem CA.bT {mi : TMi} {a : Ln} {d : Dt} (h : CA mi a d) {b r : Nat} (hb : b < nB a) (hr : r < nR a) : (-1000000 ≤ lkD a d b r ∧ lkD a d b r ≤ 1000000) ∧ -1000000 ≤ tkD a d b r ∧ tkD a d b r ≤ 1000000 := h.2.2.1.bd h.1 _ (okW0 h.1 h.2.1 hb hr)
abbrev gtsA (a : Ln) (d : Dt) (b r : Nat) : Prop := gts (nB a) (nR a) (lkD a d) (tkD a d) (dR d) b r
theorem c_Su_getsByTelling {l : Launch} {h : Nat} {mi : TMi} {ml : TMl} {z : Nat} {a : Ln} {d : Dt} {b r : Nat} {Q : Int32 → TMi → TMl → Nat → Prop} (hA : CA mi a d) (hb : b < nB a) (hr : r < nR a) (hq1 : gtsA a d b r → ∀ mi', Fr SC mi mi' → Q 1 mi' ml z) (hq0 : ¬ gtsA a d b r → ∀ mi', Fr SC mi mi' → Q 0 mi' ml z) : CI l (h + 6) m_Su_getsByTelling [.ref 75, .ref 17, .int (nI b), .int (nI r)] mi ml z Q := by
  have ha := hA.1
  have hB6 := ha.1
  have hR4 := ha.2.1
  refine t_Su_getsByTelling mi ml z _ _ (c_trial hA (fun m1 F1 hc1 hs1 => ?_))
  have F1' : Fr SC mi m1 := F1.weak (by simp)
  refine loop (P := fun i => ∀ m, Fr SC mi m → m 34 = m1 34 → SLp m 35 36 37 38 39 (nB a) (nR a) (fun b' r' => ¬ b' = b ∨ r' < i) (alone b r (lkD a d)) (tkD a d) → Ev l (h + 6) m_Su_getsByTelling 11 ([.ref 75, .ref 17, .int (nI b), .int (nI r), .int (nI i)], [], st m ml z) (qI Q)) (nR a) (fun m F e34 hs => ?_) (fun i hi ih m F e34 hs => ?_) m1 F1' rfl (hs1.cong (fun b' r' _ _ hp => ⟨trivial, by simp [alone, hp.resolve_right (Nat.not_lt_zero _)], rfl⟩))
  · have hAm : CA m a d := hA.of F (by decide)
    refine t_Su_getsByTelling_11 m ml z _ _ _ ⟨fun _ => ?_, fun c => absurd (le_at hAm.2.2.1.2.1 (by omega)) c⟩
    refine c_Ma_bestForRivers_33 hAm.2.2.1.1 hB6 hAm.2.2.1.2.1 hR4 (hs.mono (fun b' r' _ hr' _ => Or.inr hr')) (by rw [e34]; exact hc1.rm ha hA.2.1) (fun m2 wo F2 hw hwo => ⟨in_nI (by omega) (by decide), ?_⟩)
    have FF : Fr SC mi m2 := F.step (F2.weak (by simp))
    have hg := gts_iff hR4 hb hwo
    rw [cl_nI (by omega), (hw b hb).1]
    refine ⟨fun q => hq0 (fun k => q (by rw [hg.mp k]; rfl)) m2 FF, fun q => hq1 (hg.mpr ?_) m2 FF⟩
    cases e : wo b with
    | none => rw [e] at q; exact absurd q.symm (neg1_ne (by omega))
    | some r' =>
      rw [e] at q
      have := (hw b hb).2 r' e
      rw [nI_inj (by omega) (by omega) q]
  · have hAm : CA m a d := hA.of F (by decide)
    have e29 : (m 29 (4 * b + i)).toInt = tkD a d b i := (hAm.2.2.2.2.1 b i hb hi trivial).2.1
    have bT := (hA.bT hb hi).2
    refine t_Su_getsByTelling_11 m ml z _ _ _ ⟨fun c => absurd c (ge_no hAm.2.2.1.2.1 (by omega) hi), fun _ => ⟨fun q => t_B_pair _ _ _ _ _ ?_, fun q => t_B_pair _ _ _ _ _ ?_⟩⟩
    · have hne : ¬ i = r := fun k => q (by rw [k])
      rw [mul4, cl_nI (by omega), nI_1]
      have eL : alone b r (lkD a d) b i = 0 := by simp [alone, hne]
      refine ⟨in_nI (by omega) (by decide), c_Sc_setLiking_33 hB6 hR4 hs hb hi (by rw [eL]; decide) e29 (by rw [eL]; decide) bT (fun m2 F2 hs2 => ?_)⟩
      refine ih m2 (F.step (F2.weak (by simp))) (by rw [F2 34 (by decide)]; exact e34) (hs2.mono (fun b' r' _ _ hp => ?_))
      by_cases k : b' = b
      · by_cases k2 : r' = i
        · exact Or.inr ⟨k, k2⟩
        · exact Or.inl (Or.inr (by have := hp.resolve_left (fun x => x k); omega))
      · exact Or.inl (Or.inl k)
    · have heq : i = r := nI_inj (by omega) (by omega) q
      rw [mul4, cl_nI (by omega), nI_1]
      have eL : alone b r (lkD a d) b i = 1 := by simp [alone, heq]
      refine ⟨in_nI (by omega) (by decide), c_Sc_setLiking_33 hB6 hR4 hs hb hi (by rw [eL]; decide) e29 (by rw [eL]; decide) bT (fun m2 F2 hs2 => ?_)⟩
      refine ih m2 (F.step (F2.weak (by simp))) (by rw [F2 34 (by decide)]; exact e34) (hs2.mono (fun b' r' _ _ hp => ?_))
      by_cases k : b' = b
      · by_cases k2 : r' = i
        · exact Or.inr ⟨k, k2⟩
        · exact Or.inl (Or.inr (by have := hp.resolve_left (fun x => x k); omega))
      · exact Or.inl (Or.inl k)
def gainA (a : Ln) (d : Dt) (b : Nat) (g : Option Nat) : Prop := ∃ wo, WorstA a d wo ∧ isGain (nB a) (nR a) (lkD a d) (tkD a d) (dR d) b (wo b) g
theorem gainA_uniq {a : Ln} {d : Dt} {b : Nat} {g g' : Option Nat} (ha : okLn a) (hb : b < nB a) (h : gainA a d b g) (h' : gainA a d b g') : g = g' := by
  obtain ⟨wo, h1, h2⟩ := h
  obtain ⟨wo', h1', h2'⟩ := h'
  rw [worst_uniq ha.2.1 h1'.1 h1.1 h1'.2 h1.2 b hb] at h2'
  exact gain_uniq ha.2.1 h2 h2'
theorem gainA_lt {a : Ln} {d : Dt} {b r : Nat} (h : gainA a d b (some r)) : r < nR a := by
  obtain ⟨wo, h1, h2⟩ := h
  exact h2.1.1
theorem c_Su_gainByLying {l : Launch} {h : Nat} {mi : TMi} {ml : TMl} {z : Nat} {a : Ln} {d : Dt} {b : Nat} {Q : Int32 → TMi → TMl → Nat → Prop} (hA : CA mi a d) (hb : b < nB a) (hq : ∀ mi' g, Fr SC mi mi' → gainA a d b g → Q (oI g) mi' ml z) : CI l (h + 7) m_Su_gainByLying [.ref 75, .ref 17, .int (nI b)] mi ml z Q := by
  have ha := hA.1
  have hB6 := ha.1
  have hR4 := ha.2.1
  refine t_Su_gainByLying mi ml z _ (c_worst_17 hA (fun m1 wo F1 hw1 hwo => ⟨in_nI (by omega) (by decide), ?_⟩))
  rw [cl_nI (by omega), (hw1 b hb).1]
  have ht := (hw1 b hb).2
  have F1' : Fr SC mi m1 := F1.weak (by simp)
  have hgs : ∀ {r}, GS (nB a) (nR a) (lkD a d) (tkD a d) (dR d) b (wo b) r → r < nR a := fun k => k.1
  refine loop (P := fun i => ∀ m x v, Fr SC mi m → ((v = 0 ∧ x = wo b ∧ ∀ r, r < i → ¬ GS (nB a) (nR a) (lkD a d) (tkD a d) (dR d) b (wo b) r) ∨ (v = 1 ∧ ∃ r, x = some r ∧ GS (nB a) (nR a) (lkD a d) (tkD a d) (dR d) b (wo b) r ∧ ∀ r', r' < i → GS (nB a) (nR a) (lkD a d) (tkD a d) (dR d) b (wo b) r' → pbO (lkD a d) b r' ≤ pbO (lkD a d) b r)) → Ev l (h + 7) m_Su_gainByLying 24 ([.ref 75, .ref 17, .int (nI b), .int (oI x), .int v, .int (nI i), .retAddr 0], [], st m ml z) (qI Q)) (nR a) (fun m x v F hv => ?_) (fun i hi ih m x v F hv => ?_) m1 (wo b) 0 F1' (Or.inl ⟨rfl, rfl, fun r hr => absurd hr (Nat.not_lt_zero _)⟩)
  · have hAm : CA m a d := hA.of F (by decide)
    refine t_Su_gainByLying_24 m ml z _ _ _ _ ⟨fun _ => ?_, fun c => absurd (le_at hAm.2.2.1.2.1 (by omega)) c⟩
    rcases hv with ⟨hv, hx, hn⟩ | ⟨hv, r, hx, hg, hm⟩
    · exact ⟨fun _ => hq m none F ⟨wo, hwo, fun r hg => hn r (hgs hg) hg⟩, fun q => absurd hv q⟩
    · refine ⟨fun q => absurd q (by rw [hv]; decide), fun _ => ?_⟩
      rw [hx]
      exact hq m (some r) F ⟨wo, hwo, hg, fun r' hg' => hm r' (hgs hg') hg'⟩
  · have hAm : CA m a d := hA.of F (by decide)
    have hxR : ∀ r, x = some r → r < nR a := fun r e => by
      rcases hv with ⟨_, hx, _⟩ | ⟨_, r', hx, hg, _⟩
      · exact ht r (by rw [← hx]; exact e)
      · rw [hx] at e; cases e; exact hgs hg
    have keep : ∀ m', Fr SC mi m' → (GS (nB a) (nR a) (lkD a d) (tkD a d) (dR d) b (wo b) i → ∃ r, x = some r ∧ ¬ pbO (lkD a d) b r < pbO (lkD a d) b i) → Ev l (h + 7) m_Su_gainByLying 24 ([.ref 75, .ref 17, .int (nI b), .int (oI x), .int v, .int (nI i + 1), .retAddr 0], [], st m' ml z) (qI Q) := fun m' F' hno => by
      rw [nI_1]
      refine ih m' x v F' (hv.imp (fun k => ⟨k.1, k.2.1, fun r hr hg => ?_⟩) (fun k => ⟨k.1, ?_⟩))
      · by_cases e : r = i
        · subst e
          obtain ⟨rx, e1, e2⟩ := hno hg
          exact e2 (hg.2.2.1 rx (by rw [← k.2.1]; exact e1))
        · exact k.2.2 r (by omega) hg
      · obtain ⟨_, rx, hx, hg, hm⟩ := k
        refine ⟨rx, hx, hg, fun r' hr' hg' => ?_⟩
        by_cases e : r' = i
        · subst e
          obtain ⟨rx', e1, e2⟩ := hno hg'
          rw [hx] at e1
          cases e1
          omega
        · exact hm r' (by omega) hg'
    have take : ∀ m', Fr SC mi m' → (∀ r, x = some r → pbO (lkD a d) b r < pbO (lkD a d) b i) → wdO (lkD a d) (tkD a d) b i = true → gtsA a d b i → Ev l (h + 7) m_Su_gainByLying 24 ([.ref 75, .ref 17, .int (nI b), .int (nI i), .int 1, .int (nI i + 1), .retAddr 0], [], st m' ml z) (qI Q) := fun m' F' hbt hw hg => by
      rw [nI_1]
      refine ih m' (some i) 1 F' (Or.inr ⟨rfl, i, rfl, ⟨hi, hw, fun t0 et => ?_, hg⟩, fun r' hr' hg' => ?_⟩)
      · rcases hv with ⟨_, hx, _⟩ | ⟨_, rx, hx, hgx, _⟩
        · exact hbt t0 (by rw [hx]; exact et)
        · have h1 := hbt rx hx
          have h2 := hgx.2.2.1 t0 et
          omega
      · by_cases e : r' = i
        · rw [e]; exact Int.le_refl _
        · rcases hv with ⟨_, hx, hn⟩ | ⟨_, rx, hx, hgx, hm⟩
          · exact absurd hg' (hn r' (by omega))
          · have h1 := hbt rx hx
            have h2 := hm r' (by omega) hg'
            omega
    refine t_Su_gainByLying_24 m ml z _ _ _ _ ⟨fun c => absurd c (ge_no hAm.2.2.1.2.1 (by omega) hi), fun _ => ?_⟩
    cases ex : x with
    | none =>
      rw [ex] at keep take
      refine ⟨fun _ => c_Sc_bothWould_17 hB6 hR4 hAm.2.2.2.2 hb hi ⟨fun q => keep m F (fun hg => ?_), fun q => c_Su_getsByTelling hAm hb hi (fun hg m' F' => ⟨fun k => absurd k (by decide), fun _ => take m' (F.step F') (fun r e => by cases e) (by rw [bI_0] at q; simpa using q) hg⟩) (fun hg m' F' => ⟨fun _ => keep m' (F.step F') (fun k => absurd k.2.2.2 hg), fun k => absurd rfl k⟩)⟩, fun q => absurd rfl q⟩
      rw [bI_0, hg.2.1] at q
      cases q
    | some rx =>
      rw [ex] at keep take
      have hrx := hxR rx ex
      refine ⟨fun q => absurd q (neg1_ne (by omega)), fun _ => c_Sc_likesBetter_17 hB6 hR4 hAm.2.2.2.2 hb hi hrx ⟨fun q => c_Sc_bothWould_17 hB6 hR4 hAm.2.2.2.2 hb hi ⟨fun _ => keep m F (fun _ => ⟨rx, rfl, ?_⟩), fun _ => keep m F (fun _ => ⟨rx, rfl, ?_⟩)⟩, fun q => c_Sc_bothWould_17 hB6 hR4 hAm.2.2.2.2 hb hi ⟨fun q2 => keep m F (fun hg => ?_), fun q2 => c_Su_getsByTelling hAm hb hi (fun hg m' F' => ⟨fun k => absurd k (by decide), fun _ => take m' (F.step F') (fun r e => ?_) (by rw [bI_0] at q2; simpa using q2) hg⟩) (fun hg m' F' => ⟨fun _ => keep m' (F.step F') (fun k => absurd k.2.2.2 hg), fun k => absurd rfl k⟩)⟩⟩⟩
      · rw [bI_0, decide_eq_false_iff_not] at q; exact q
      · rw [bI_0, decide_eq_false_iff_not] at q; exact q
      · rw [bI_0, hg.2.1] at q2; cases q2
      · cases e
        rw [bI_0, decide_eq_false_iff_not, Decidable.not_not] at q
        exact q
theorem c_B_gains {l : Launch} {h : Nat} {mi : TMi} {ml : TMl} {z : Nat} {a : Ln} {d : Dt} {x : Int32} {Q : Int32 → TMi → TMl → Nat → Prop} (hA : CA mi a d) (hq1 : inB a x → ∀ mi' g, Fr SC mi mi' → gainA a d x.toInt.toNat g → Q (oI g) mi' ml z) (hq0 : ¬ inB a x → Q (-2) mi ml z) : CI l (h + 8) m_B_gains [.ref 1, .int x] mi ml z Q := by
  have hB6 := hA.1.1
  refine t_B_gains mi ml z _ (c_hasBeck hA.2.2.1.1 hB6 ⟨fun c => ?_, fun c => ?_⟩)
  · rw [bI_0, decide_eq_false_iff_not] at c
    exact hq0 c
  · rw [bI_0, Bool.not_eq_false, decide_eq_true_eq] at c
    obtain ⟨ex, hb⟩ := inB_nI (a := a) c
    have hq1 := hq1 c
    generalize x.toInt.toNat = b at ex hb hq1
    rw [ex]
    exact c_Su_gainByLying hA hb hq1
def lieA (g : Option Nat) : Int32 := match g with | none => -1 | some r => nI (r + 1)
theorem c_B_lie {l : Launch} {h : Nat} {mi : TMi} {ml : TMl} {z : Nat} {a : Ln} {d : Dt} {x : Int32} {Q : Int32 → TMi → TMl → Nat → Prop} (hA : CA mi a d) (hq1 : inB a x → ∀ mi' g, Fr SC mi mi' → gainA a d x.toInt.toNat g → Q (lieA g) mi' ml z) (hq0 : ¬ inB a x → Q (-2) mi ml z) : CI l (h + 8) m_B_lie [.ref 1, .int x] mi ml z Q := by
  have hB6 := hA.1.1
  have hR4 := hA.1.2.1
  refine t_B_lie mi ml z _ (c_hasBeck hA.2.2.1.1 hB6 ⟨fun c => ?_, fun c => ?_⟩)
  · rw [bI_0, Bool.not_eq_false, decide_eq_true_eq] at c
    obtain ⟨ex, hb⟩ := inB_nI (a := a) c
    have hq1 := hq1 c
    generalize x.toInt.toNat = b at ex hb hq1
    rw [ex]
    refine c_Su_gainByLying hA hb (fun m g F hg => ?_)
    have hq1 := hq1 m g F hg
    cases g with
    | none => exact ⟨fun q => absurd rfl q, fun _ => hq1⟩
    | some r =>
      have := gainA_lt hg
      refine ⟨fun _ => ?_, fun q => absurd q (neg1_ne (by omega))⟩
      show Q (nI r + 1) m ml z
      rw [nI_1]
      exact hq1
  · rw [bI_0, decide_eq_false_iff_not] at c
    exact hq0 c
def liaA (a : Ln) (d : Dt) (x : Int32) : Prop := ∃ p : Nat → Bool, x = nI (enc p (nB a)) ∧ ∀ b, b < nB a → ∃ g, gainA a d b g ∧ p b = g.isSome
theorem liaA_uniq {a : Ln} {d : Dt} {x y : Int32} (ha : okLn a) (h : liaA a d x) (h' : liaA a d y) : x = y := by
  obtain ⟨p, h1, h2⟩ := h
  obtain ⟨p', h1', h2'⟩ := h'
  rw [h1, h1', enc_congr (fun b hb => ?_)]
  obtain ⟨g, k1, k2⟩ := h2 b hb
  obtain ⟨g', k1', k2'⟩ := h2' b hb
  rw [k2, k2', gainA_uniq ha hb k1 k1']
theorem c_B_liars {l : Launch} {h : Nat} {mi : TMi} {ml : TMl} {z : Nat} {a : Ln} {d : Dt} {Q : Int32 → TMi → TMl → Nat → Prop} (hA : CA mi a d) (hq : ∀ mi' x, Fr SC mi mi' → liaA a d x → Q x mi' ml z) : CI l (h + 8) m_B_liars [.ref 1] mi ml z Q := by
  have hB6 := hA.1.1
  have hR4 := hA.1.2.1
  refine t_B_liars mi ml z ?_
  refine loop (P := fun i => ∀ m p, Fr SC mi m → (∀ b, b < i → ∃ g, gainA a d b g ∧ p b = g.isSome) → Ev l (h + 8) m_B_liars 4 ([.ref 1, .int (nI (enc p i)), .int (nI i)], [], st m ml z) (qI Q)) (nB a) (fun m p F hp => ?_) (fun i hi ih m p F hp => ?_) mi (fun _ => false) (Fr.refl _ _) (fun b hb => absurd hb (Nat.not_lt_zero _))
  · have hAm : CA m a d := hA.of F (by decide)
    exact t_B_liars_4 m ml z _ _ ⟨fun _ => hq m _ F ⟨p, rfl, hp⟩, fun c => absurd (le_at hAm.2.2.1.1 (by omega)) c⟩
  · have hAm : CA m a d := hA.of F (by decide)
    refine t_B_liars_4 m ml z _ _ ⟨fun c => absurd c (ge_no hAm.2.2.1.1 (by omega) hi), fun _ => c_Su_gainByLying hAm hi (fun m2 g F2 hg => ?_)⟩
    have ep : enc p i = enc (fun b => if b = i then g.isSome else p b) i := enc_congr (fun b hb => by simp [show ¬ b = i by omega])
    have ih := ih m2 (fun b => if b = i then g.isSome else p b) (F.step F2) (fun b hb => by
      by_cases e : b = i
      · subst e; exact ⟨g, hg, by simp⟩
      · simp only [e, if_false]; exact hp b (by omega))
    rw [nI_1, ep]
    cases g with
    | none =>
      rw [enc_skip (p := fun b => if b = i then (none : Option Nat).isSome else p b) (by simp)]
      exact ⟨fun _ => ih, fun q => absurd rfl q⟩
    | some r =>
      have := gainA_lt hg
      refine ⟨fun q => absurd q (neg1_ne (by omega)), fun _ => ?_⟩
      rw [enc_step (p := fun b => if b = i then (some r).isSome else p b) (by omega) (by simp)]
      exact ih
