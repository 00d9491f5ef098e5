/-! ===== lies: the reference's side ===== -/
def lgo (R : Nat) : Nat → Nat → Nat → (Nat → Option Nat) → Option (Nat → Option Nat)
  | 0, _, _, _ => none
  | f + 1, rest, k, tr => if rest = 0 then some tr else if rest % 5 = 0 ∨ R < rest % 5 ∨ ¬ tr (rest % 5 - 1) = none then none else lgo R f (rest / 5) (k + 1) (fun i => if i = rest % 5 - 1 then some k else tr i)
def lieV (R j : Nat) : Option (Nat → Option Nat) := lgo R 5 j 0 (fun _ => none)
def TrOk (tr : Nat → Option Nat) (k : Nat) : Prop := (∀ r x, tr r = some x → x < k) ∧ ∀ r r' x, tr r = some x → tr r' = some x → r = r'
theorem TrOk.put {tr : Nat → Option Nat} {k r : Nat} (h : TrOk tr k) : TrOk (fun i => if i = r then some k else tr i) (k + 1) := by
  refine ⟨fun i x e => ?_, fun i i' x e e' => ?_⟩
  · by_cases q : i = r
    · simp [q] at e; omega
    · simp [q] at e; have := h.1 i x e; omega
  · by_cases q : i = r
    · by_cases q' : i' = r
      · rw [q, q']
      · simp [q] at e; simp [q'] at e'; have := h.1 i' x e'; omega
    · by_cases q' : i' = r
      · simp [q] at e; simp [q'] at e'; have := h.1 i x e; omega
      · simp [q] at e; simp [q'] at e'; exact h.2 i i' x e e'
theorem c_lie_loop {l : Launch} {h : Nat} {ml : TMl} {z : Nat} {R : Nat} {Q : Int32 → TMi → TMl → Nat → Prop} {mi : TMi} (hR : mi 120 2 = nI R) (hR4 : R ≤ 4) : ∀ (f rest k : Nat) (tr : Nat → Option Nat) (m : TMi), rest < 5 ^ f → k + f ≤ 4 → Fr [132] mi m → (∀ r, r < 4 → m 132 r = oI (tr r)) → TrOk tr k →
    (∀ mi' tr', Fr [132] mi mi' → lgo R (f + 1) rest k tr = some tr' → (∀ r, r < 4 → mi' 132 r = oI (tr' r)) → TrOk tr' 4 → Q 1 mi' ml z) → (lgo R (f + 1) rest k tr = none → ∀ mi', Fr [132] mi mi' → Q 0 mi' ml z) → Ev l (h + 1) m_R_laysLie 24 ([.ref 119, .retAddr 0, .int (nI rest), .int (nI k), .retAddr 0], [], st m ml z) (qI Q) := by
  intro f
  induction f with
  | zero =>
    intro rest k tr m hr hk F hm ht h1 h0
    rw [Nat.pow_zero] at hr
    have : rest = 0 := by omega
    subst this
    exact t_R_laysLie_24 m ml z _ _ ⟨fun _ => h1 m tr F (by simp [lgo]) hm ⟨fun r x e => by have := ht.1 r x e; omega, ht.2⟩, fun c => absurd (by decide) c⟩
  | succ f ih =>
    intro rest k tr m hr hk F hm ht h1 h0
    have h5 : 5 ^ (f + 1) ≤ 5 ^ 4 := Nat.pow_le_pow_right (by decide) (by omega)
    have h625 : (5 : Nat) ^ 4 = 625 := by decide
    have hrest : rest < 2 ^ 31 := by omega
    by_cases q0 : rest = 0
    · subst q0
      exact t_R_laysLie_24 m ml z _ _ ⟨fun _ => h1 m tr F (by simp [lgo]) hm ⟨fun r x e => by have := ht.1 r x e; omega, ht.2⟩, fun c => absurd (by decide) c⟩
    · have hmod : rest % 5 < 5 := Nat.mod_lt _ (by decide)
      refine t_R_laysLie_24 m ml z _ _ ?_
      rw [show (5 : Int32) = nI 5 from rfl, remN hrest (by decide) (by decide), divN hrest (by decide) (by decide), dig_oI _ hmod, F 120 (by decide), hR, nI_1]
      refine ⟨fun c => absurd ((nI_leI (a := rest) (b := 0) hrest (by decide)).mp c) (by omega), fun _ => ?_⟩
      cases e : rest % 5 with
      | zero =>
        have e0 : lgo R (f + 1 + 1) rest k tr = none := by simp [lgo, q0, e]
        exact ⟨fun _ => h0 e0 m F, fun c => absurd (by decide) c⟩
      | succ r =>
        rw [show oI (undg (r + 1)) = nI r from rfl]
        refine ⟨fun c => absurd ((nI_ltI (a := r) (b := 0) (by omega) (by decide)).mp c) (by omega), fun _ => ?_⟩
        rw [nI_leI (by omega) (by omega), cl_nI (show r < 2 ^ 31 by omega)]
        have hin : r < 4 → vp_in (nI r) 4 := fun hr4 => in_nI hr4 (by decide)
        refine ⟨fun c => ?_, fun c => ⟨hin (by omega), ?_⟩⟩
        · have e0 : lgo R (f + 1 + 1) rest k tr = none := by
            rw [lgo, if_neg q0, if_pos (Or.inr (Or.inl (by omega)))]
          exact h0 e0 m F
        · rw [hm r (by omega)]
          cases e2 : tr r with
          | some x =>
            have e0 : lgo R (f + 1 + 1) rest k tr = none := by
              rw [lgo, if_neg q0, if_pos (Or.inr (Or.inr (by rw [e, Nat.add_sub_cancel, e2]; simp)))]
            have := ht.1 r x e2
            exact ⟨fun q => absurd q (neg1_ne (by omega)), fun _ => h0 e0 m F⟩
          | none =>
            have e0 : lgo R (f + 1 + 1) rest k tr = lgo R (f + 1) (rest / 5) (k + 1) (fun i => if i = r then some k else tr i) := by
              conv => lhs; rw [lgo, if_neg q0, if_neg (by rw [e, Nat.add_sub_cancel, e2]; simp; omega)]
              rw [e, Nat.add_sub_cancel]
            rw [e0] at h0 h1
            refine ⟨fun _ => ⟨hin (by omega), ?_⟩, fun q => absurd rfl q⟩
            refine ih (rest / 5) (k + 1) _ _ ?_ (by omega) (F.step (Fr_up _ _ _ _)) (fun x hx => ?_) ht.put h1 h0
            · rw [Nat.pow_succ] at hr
              exact Nat.div_lt_of_lt_mul (by omega)
            · by_cases qx : x = r
              · subst qx; rw [up_at]; simp [oI]
              · rw [up_nk _ _ _ qx]; simp only [qx, if_false]; exact hm x hx
theorem c_R_laysLie {l : Launch} {h : Nat} {mi : TMi} {ml : TMl} {z : Nat} {R j : Nat} {Q : Int32 → TMi → TMl → Nat → Prop} (hR : mi 120 2 = nI R) (hR4 : R ≤ 4) (hj : j < 625)
    (h1 : ∀ mi' tr', Fr [132] mi mi' → lieV R j = some tr' → (∀ r, r < 4 → mi' 132 r = oI (tr' r)) → TrOk tr' 4 → Q 1 mi' ml z) (h0 : lieV R j = none → ∀ mi', Fr [132] mi mi' → Q 0 mi' ml z) : CI l (h + 1) m_R_laysLie [.ref 119, .int (nI j)] mi ml z Q := by
  refine t_R_laysLie mi ml z _ ?_
  refine loop (P := fun i => ∀ m, Fr [132] mi m → (∀ k, k < i → m 132 k = -1) → Ev l (h + 1) m_R_laysLie 2 ([.ref 119, .int (nI j), .int (nI i), .retAddr 0, .retAddr 0], [], st m ml z) (qI Q)) 4 (fun m F hk => ?_) (fun i hi ih m F hk => ?_) mi (Fr.refl _ _) (fun k hk => absurd hk (Nat.not_lt_zero _))
  · refine t_R_laysLie_2 m ml z _ _ ⟨fun _ => ?_, fun c => absurd (by decide) c⟩
    exact c_lie_loop hR hR4 4 j 0 (fun _ => none) m (by omega) (by omega) F (fun r hr => hk r hr) ⟨fun r x e => (by cases e), fun r r' x e => (by cases e)⟩ h1 h0
  · refine t_R_laysLie_2 m ml z _ _ ⟨fun c => absurd c (ge_no (N := 4) rfl (by decide) hi), fun _ => ⟨in_nI hi (by decide), ?_⟩⟩
    rw [cl_nI (by omega), nI_1]
    refine ih _ (F.step (Fr_up _ _ _ _)) (fun k hk' => ?_)
    by_cases q : k = i
    · subst q; rw [up_at]
    · rw [up_nk _ _ _ q]; exact hk k (by omega)
theorem lieV_0 (R : Nat) : lieV R 0 = some (fun _ => none) := by simp [lieV, lgo]
theorem lieV_1 {R k : Nat} (hk : k < 4) : lieV R (k + 1) = if k < R then some (fun i => if i = k then some 0 else none) else none := by
  have e : (k + 1) % 5 = k + 1 := Nat.mod_eq_of_lt (by omega)
  have e2 : (k + 1) / 5 = 0 := Nat.div_eq_of_lt (by omega)
  unfold lieV
  rw [lgo, if_neg (by omega), e]
  by_cases q : k < R
  · rw [if_pos q, if_neg (by simp; omega), e2, Nat.add_sub_cancel]
    simp [lgo]
  · rw [if_neg q, if_pos (Or.inr (Or.inl (by omega)))]
/-- what a lie gets, the river alone gets too -/
theorem out_gts {B R : Nat} {L T : Nat → Nat → Int} {rm : Nat → Nat} {b r : Nat} {tr : Nat → Option Nat} {wo : Nat → Option Nat} (hB6 : B ≤ 6) (hR4 : R ≤ 4) (hb : b < B) (h : Worst B R (lieL (some b) tr L) T rm wo) (e : wo b = some r) : r < R ∧ 0 < T b r ∧ gts B R L T rm b r := by
  have hw := h.1.1 b r hb e
  obtain ⟨w1, hw1⟩ := ex_worst (alone b r L) T rm hB6 hR4
  obtain ⟨b1, hb1⟩ := ex_best (alone b r L) T rm hB6 hR4
  refine ⟨hw.1, ?_, w1, hw1, ?_⟩
  · have := hw.2
    simp [wdO] at this
    exact this.2
  · refine lie_alone (L := L) (L' := lieL (some b) tr L) hR4 hb (fun b' r' _ hne => ⟨by simp [lieL, Ne.symm hne], by simp [alone, hne]⟩) (fun r' hr' => ?_) h.1 e hw1.1 hb1.1 hb1.2 hw1.2
    by_cases q : r' = r
    · simp [alone, q]
    · simp [alone, q]
theorem one_gts {B R : Nat} {L T : Nat → Nat → Int} {rm : Nat → Nat} {b r : Nat} {wo : Nat → Option Nat} (hR4 : R ≤ 4) (hb : b < B) (h : Worst B R (lieL (some b) (fun i => if i = r then some 0 else none) L) T rm wo) (hg : gts B R L T rm b r) : wo b = some r := by
  have hlk : Like B R (lieL (some b) (fun i => if i = r then some 0 else none) L) T (alone b r L) T := by
    refine ⟨fun x y hx hy => ?_, fun x y y' hx hy hy' w1 w2 => ?_, fun _ _ _ _ _ _ _ _ => Iff.rfl⟩
    · unfold wdO
      by_cases q : x = b
      · by_cases q2 : y = r
        · simp [lieL, alone, q, q2]
        · simp [lieL, alone, q, q2]
      · simp [lieL, alone, q, Ne.symm q]
    · by_cases q : x = b
      · have k1 : y = r := by
          by_cases q2 : y = r
          · exact q2
          · simp [wdO, lieL, q, q2] at w1
        have k2 : y' = r := by
          by_cases q2 : y' = r
          · exact q2
          · simp [wdO, lieL, q, q2] at w2
        rw [k1, k2]
        omega
      · unfold pbO
        simp [lieL, alone, q, Ne.symm q]
  exact (gts_iff hR4 hb (h.like hlk)).mp hg
theorem one_out {B R : Nat} {L T : Nat → Nat → Int} {rm : Nat → Nat} {b r : Nat} {tr : Nat → Option Nat} {wo : Nat → Option Nat} (hb : b < B) (h : Worst B R (lieL (some b) tr L) T rm wo) (e : wo b = some r) : ¬ tr r = none := fun q => by
  have := (h.1.1 b r hb e).2
  simp [wdO, lieL, q] at this
theorem alone_like {B R : Nat} {L T L' T' : Nat → Nat → Int} {b r : Nat} (h : ∀ b r, b < B → r < R → L b r = L' b r ∧ T b r = T' b r) : Like B R (alone b r L) T (alone b r L') T' := Like.of (fun x y hx hy => ⟨by unfold alone; rw [(h x y hx hy).1], (h x y hx hy).2⟩)
theorem GS_congr {B R : Nat} {L T L' T' : Nat → Nat → Int} {rm : Nat → Nat} {b r : Nat} {t : Option Nat} (h : ∀ b r, b < B → r < R → L b r = L' b r ∧ T b r = T' b r) (hb : b < B) (ht : ∀ t0, t = some t0 → t0 < R) (k : GS B R L T rm b t r) : GS B R L' T' rm b t r := by
  obtain ⟨k1, k2, k3, wo, k4, k5⟩ := k
  refine ⟨k1, ?_, fun t0 e => ?_, wo, k4.like (alone_like h), k5⟩
  · unfold wdO at k2 ⊢; rw [← (h b r hb k1).1, ← (h b r hb k1).2]; exact k2
  · have := k3 t0 e
    unfold pbO at this ⊢
    rw [← (h b r hb k1).1, ← (h b t0 hb (ht t0 e)).1]
    exact this
theorem gain_congr {B R : Nat} {L T L' T' : Nat → Nat → Int} {rm : Nat → Nat} {b : Nat} {t g : Option Nat} (h : ∀ b r, b < B → r < R → L b r = L' b r ∧ T b r = T' b r) (hb : b < B) (ht : ∀ t0, t = some t0 → t0 < R) (k : isGain B R L T rm b t g) : isGain B R L' T' rm b t g := by
  have h' : ∀ b r, b < B → r < R → L' b r = L b r ∧ T' b r = T b r := fun b r hb hr => ⟨(h b r hb hr).1.symm, (h b r hb hr).2.symm⟩
  cases g with
  | none => exact fun r hg => k r (GS_congr h' hb ht hg)
  | some r =>
    refine ⟨GS_congr h hb ht k.1, fun r' hg => ?_⟩
    have := k.2 r' (GS_congr h' hb ht hg)
    unfold pbO at this ⊢
    rw [← (h b r hb k.1.1).1, ← (h b r' hb hg.1).1]
    exact this
/-- what is known when the lies below i are through -/
def LiI (B R : Nat) (L T : Nat → Nat → Int) (rm : Nat → Nat) (b : Nat) (t : Option Nat) (i : Nat) : Option Nat → Prop
  | none => ∀ j tr wo r, j < i → lieV R j = some tr → Worst B R (lieL (some b) tr L) T rm wo → wo b = some r → ¬ GS B R L T rm b t r
  | some x => GS B R L T rm b t x ∧ ∀ j tr wo r, j < i → lieV R j = some tr → Worst B R (lieL (some b) tr L) T rm wo → wo b = some r → GS B R L T rm b t r → pbO L b r ≤ pbO L b x
theorem LiI.end {B R : Nat} {L T : Nat → Nat → Int} {rm : Nat → Nat} {b : Nat} {t g : Option Nat} (hB6 : B ≤ 6) (hR4 : R ≤ 4) (hb : b < B) (h : LiI B R L T rm b t 625 g) : isGain B R L T rm b t g := by
  have key : ∀ r, GS B R L T rm b t r → ∃ wo, Worst B R (lieL (some b) (fun i => if i = r then some 0 else none) L) T rm wo ∧ wo b = some r ∧ lieV R (r + 1) = some (fun i => if i = r then some 0 else none) ∧ r + 1 < 625 := fun r hg => by
    obtain ⟨wo, hwo⟩ := ex_worst (lieL (some b) (fun i => if i = r then some 0 else none) L) T rm hB6 hR4
    have := hg.1
    exact ⟨wo, hwo, one_gts hR4 hb hwo hg.2.2.2, by rw [lieV_1 (by omega), if_pos hg.1], by omega⟩
  cases g with
  | none =>
    intro r hg
    obtain ⟨wo, k1, k2, k3, k4⟩ := key r hg
    exact h (r + 1) _ wo r k4 k3 k1 k2 hg
  | some x =>
    refine ⟨h.1, fun r hg => ?_⟩
    obtain ⟨wo, k1, k2, k3, k4⟩ := key r hg
    exact h.2 (r + 1) _ wo r k4 k3 k1 k2 hg
/-- a lie that gains anew is the first that tells that river -/
theorem LiI.new {B R : Nat} {L T : Nat → Nat → Int} {rm : Nat → Nat} {b i r : Nat} {t g : Option Nat} {tr : Nat → Option Nat} {wo : Nat → Option Nat} (hB6 : B ≤ 6) (hR4 : R ≤ 4) (hb : b < B) (h : LiI B R L T rm b t i g) (hv : lieV R i = some tr) (hwo : Worst B R (lieL (some b) tr L) T rm wo) (e : wo b = some r) (hg : GS B R L T rm b t r) (hbt : ∀ x, g = some x → pbO L b x < pbO L b r) : i = r + 1 := by
  have hr := hg.1
  by_cases q : r + 1 < i
  · exfalso
    obtain ⟨w1, hw1⟩ := ex_worst (lieL (some b) (fun i => if i = r then some 0 else none) L) T rm hB6 hR4
    have k1 := one_gts hR4 hb hw1 hg.2.2.2
    have k2 : lieV R (r + 1) = some (fun i => if i = r then some 0 else none) := by rw [lieV_1 (by omega), if_pos hr]
    cases g with
    | none => exact h (r + 1) _ w1 r q k2 hw1 k1 hg
    | some x =>
      have := h.2 (r + 1) _ w1 r q k2 hw1 k1 hg
      have := hbt x rfl
      omega
  · by_cases q2 : i = r + 1
    · exact q2
    · exfalso
      have hno := one_out hb hwo e
      cases i with
      | zero =>
        rw [lieV_0] at hv
        cases hv
        exact hno rfl
      | succ k =>
        rw [lieV_1 (by omega)] at hv
        by_cases q3 : k < R
        · rw [if_pos q3] at hv
          cases hv
          exact hno (by simp; omega)
        · rw [if_neg q3] at hv
          cases hv
theorem LiI.step {B R : Nat} {L T : Nat → Nat → Int} {rm : Nat → Nat} {b i : Nat} {t g : Option Nat} (h : LiI B R L T rm b t i g) (hk : ∀ tr wo r, lieV R i = some tr → Worst B R (lieL (some b) tr L) T rm wo → wo b = some r → GS B R L T rm b t r → ∃ x, g = some x ∧ pbO L b r ≤ pbO L b x) : LiI B R L T rm b t (i + 1) g := by
  cases g with
  | none =>
    intro j tr wo r hj hv hwo e hg
    by_cases q : j = i
    · subst q
      obtain ⟨x, hx, _⟩ := hk tr wo r hv hwo e hg
      cases hx
    · exact h j tr wo r (by omega) hv hwo e hg
  | some x =>
    refine ⟨h.1, fun j tr wo r hj hv hwo e hg => ?_⟩
    by_cases q : j = i
    · subst q
      obtain ⟨x', hx, hle⟩ := hk tr wo r hv hwo e hg
      cases hx
      exact hle
    · exact h.2 j tr wo r (by omega) hv hwo e hg
theorem LiI.take {B R : Nat} {L T : Nat → Nat → Int} {rm : Nat → Nat} {b i r : Nat} {t g : Option Nat} {tr : Nat → Option Nat} {wo : Nat → Option Nat} (hR4 : R ≤ 4) (hb : b < B) (h : LiI B R L T rm b t i g) (hv : lieV R i = some tr) (hwo : Worst B R (lieL (some b) tr L) T rm wo) (e : wo b = some r) (hg : GS B R L T rm b t r) (hbt : ∀ x, g = some x → pbO L b x < pbO L b r) : LiI B R L T rm b t (i + 1) (some r) := by
  refine ⟨hg, fun j tr' wo' r' hj hv' hwo' e' hg' => ?_⟩
  by_cases q : j = i
  · subst q
    rw [hv] at hv'
    cases hv'
    have := worst_uniq hR4 hwo.1 hwo'.1 hwo.2 hwo'.2 b hb
    rw [e, e'] at this
    cases this
    exact Int.le_refl _
  · cases g with
    | none => exact absurd hg' (h j tr' wo' r' (by omega) hv' hwo' e')
    | some x =>
      have := h.2 j tr' wo' r' (by omega) hv' hwo' e' hg'
      have := hbt x rfl
      omega
