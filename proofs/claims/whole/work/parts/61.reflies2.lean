/-! ===== gains, lie, liars of the reference ===== -/
def FG (mi mi' : TMi) : Prop := (∀ n, n ≠ 119 → n ≠ 129 → n ≠ 131 → n ≠ 132 → mi' n = mi n) ∧ mi' 119 5 = mi 119 5 ∧ mi' 119 13 = mi 119 13 ∧ mi' 119 14 = mi 119 14
theorem FG.refl (mi : TMi) : FG mi mi := ⟨fun _ _ _ _ _ => rfl, rfl, rfl, rfl⟩
theorem FG.trans {a b c : TMi} (h : FG a b) (k : FG b c) : FG a c := ⟨fun n h1 h2 h3 h4 => by rw [k.1 n h1 h2 h3 h4, h.1 n h1 h2 h3 h4], by rw [k.2.1, h.2.1], by rw [k.2.2.1, h.2.2.1], by rw [k.2.2.2, h.2.2.2]⟩
theorem FG.u119 (mi : TMi) {k : Nat} (x : Int32) (h : k ≠ 5 ∧ k ≠ 13 ∧ k ≠ 14) : FG mi (up mi 119 k x) := ⟨fun n hn _ _ _ => up_ne _ _ _ hn, up_nk _ _ _ (Ne.symm h.1), up_nk _ _ _ (Ne.symm h.2.1), up_nk _ _ _ (Ne.symm h.2.2)⟩
theorem FG.of {mi mi' : TMi} {ns : List Nat} (F : Fr ns mi mi') (h : ∀ n, n ∈ ns → n = 129 ∨ n = 131 ∨ n = 132) : FG mi mi' := by
  have e : mi' 119 = mi 119 := F 119 (fun q => by have := h 119 q; omega)
  exact ⟨fun n h1 h2 h3 h4 => F n (fun q => by have := h n q; omega), by rw [e], by rw [e], by rw [e]⟩
theorem FG.q {a b : TMi} (h : FG a b) : FQ a b := ⟨fun n hn => h.1 n (by omega) (by omega) (by omega) (by omega), h.2⟩
theorem FG.rh {m m' : TMi} {B R : Nat} {L T : Nat → Nat → Int} {rm : Nat → Nat} (h : RH m B R L T rm) (F : FG m m') : RH m' B R L T rm := h.fr (F.1 120 (by decide) (by decide) (by decide) (by decide)) (F.1 126 (by decide) (by decide) (by decide) (by decide)) (F.1 127 (by decide) (by decide) (by decide) (by decide))
theorem c_R_laysGains {l : Launch} {h : Nat} {mi : TMi} {ml : TMl} {z : Nat} {a : Ln} {d : Dt} {b : Nat} {Q : TMi → TMl → Nat → Prop} (hA : RA mi a d) (hb : b < nB a)
    (hq : ∀ mi' g, FQ mi mi' → gainA a d b g → mi' 119 29 = oI g → mi' 119 30 = lieA g → Q mi' ml z) : CV l (h + 5) m_R_laysGains [.ref 119, .int (nI b)] mi ml z Q := by
  have ha := hA.1
  have hB6 := ha.1
  have hR4 := ha.2.1
  refine t_R_laysGains mi ml z _ (c_laysLikes ha hA.2.1.v hA.2.2.2.1 hA.2.2.2.2 (fun m1 F1 hl1 => ?_))
  have F01 : FQ mi (up m1 119 27 (-1)) := (FQ.of F1 (fun n hn => by simp; omega)).trans (FQ.u119 _ _ (by decide))
  have hA1 := hA.q F01
  have hl2 : LT (up m1 119 27 (-1)) a d := hl1.fr (up_ne _ _ _ (by decide)) (up_ne _ _ _ (by decide))
  have hH := hA1.rh hl2
  have hS : LieS (up m1 119 27 (-1)) none (fun _ => none) := ⟨up_at _ _ _ _, fun x e => (by cases e)⟩
  have hlt := hl2
  generalize up m1 119 27 (-1) = m2 at F01 hA1 hl2 hH hS hlt ⊢
  have hag : ∀ b r, b < nB a → r < nR a → Lk m2 126 b r = lkD a d b r ∧ Lk m2 127 b r = tkD a d b r := hlt
  generalize Lk m2 126 = L at hH hag
  generalize Lk m2 127 = T at hH hag
  refine c_R_laysByRivers hH hS (fun m3 wo0 F3 hw3 hwo0 => ⟨in_nI (by omega) (by decide), ?_⟩)
  rw [lie_none] at hwo0
  rw [cl_nI (show b < 2 ^ 31 by omega), (hw3 b hb).1]
  have ht := (hw3 b hb).2
  have F23 : FG m2 (up (up m3 119 29 (-1)) 119 30 (-1)) := ((FG.of F3 (by simp)).trans (FG.u119 _ _ (by decide))).trans (FG.u119 _ _ (by decide))
  have hfin : ∀ m g, FG m2 m → LiI (nB a) (nR a) L T (dR d) b (wo0 b) 625 g → m 119 29 = oI g → m 119 30 = lieA g → Q m ml z := fun m g F hI e1 e2 =>
    hq m g (F01.trans F.q) ⟨wo0, hwo0.like (Like.of hag), gain_congr hag hb ht (hI.end hB6 hR4 hb)⟩ e1 e2
  refine loop (P := fun i => ∀ m g, FG m2 m → LiI (nB a) (nR a) L T (dR d) b (wo0 b) i g → m 119 29 = oI g → m 119 30 = lieA g → Ev l (h + 5) m_R_laysGains 32 ([.ref 119, .int (nI b), .int (oI (wo0 b)), .int (nI i), .retAddr 0, .retAddr 0], [], st m ml z) (qV Q)) 625 (fun m g F hI e1 e2 => ?_) (fun i hi ih m g F hI e1 e2 => ?_) _ none F23 (fun j tr wo r hj => absurd hj (Nat.not_lt_zero _)) (by rw [up_nk _ _ _ (by decide), up_at]; rfl) (up_at _ _ _ _)
  · exact t_R_laysGains_32 m ml z _ _ _ ⟨fun _ => hfin m g F hI e1 e2, fun c => absurd (by decide) c⟩
  · have hHm := F.rh hH
    refine t_R_laysGains_32 m ml z _ _ _ ⟨fun c => absurd c (ge_no (N := 625) rfl (by decide) hi), fun _ => c_R_laysLie hHm.2.2.1 hR4 hi (fun m4 tr F4 hv htr hok => ⟨fun _ => ?_, fun q => absurd q (by decide)⟩) (fun hv m4 F4 => ⟨fun q => absurd rfl q, fun _ => ?_⟩)⟩
    · have F5 : FG m (up m4 119 27 (nI b)) := (FG.of F4 (by simp)).trans (FG.u119 _ _ (by decide))
      have hS5 : LieS (up m4 119 27 (nI b)) (some b) tr := ⟨up_at _ _ _ _, fun x e => by cases e; exact ⟨by omega, fun r hr => by rw [up_ne _ _ _ (by decide)]; exact htr r hr, fun r k _ e => hok.1 r k e, fun r r' k _ _ => hok.2 r r' k⟩⟩
      have g29 : (up m4 119 27 (nI b)) 119 29 = oI g := by rw [up_nk _ _ _ (by decide), F4 119 (by decide)]; exact e1
      have g30 : (up m4 119 27 (nI b)) 119 30 = lieA g := by rw [up_nk _ _ _ (by decide), F4 119 (by decide)]; exact e2
      generalize up m4 119 27 (nI b) = m5 at F5 hS5 g29 g30 ⊢
      refine c_R_laysByRivers (F5.rh hHm) hS5 (fun m6 wo F6 hw6 hwo => ⟨in_nI (by omega) (by decide), ?_⟩)
      have F7 : FG m2 (up m6 119 27 (-1)) := ((F.trans F5).trans (FG.of F6 (by simp))).trans (FG.u119 _ _ (by decide))
      have h29 : (up m6 119 27 (-1)) 119 29 = oI g := by rw [up_nk _ _ _ (by decide), F6 119 (by decide)]; exact g29
      have h30 : (up m6 119 27 (-1)) 119 30 = lieA g := by rw [up_nk _ _ _ (by decide), F6 119 (by decide)]; exact g30
      have h129 : (up m6 119 27 (-1)) 129 b = oI (wo b) := by rw [up_ne _ _ _ (by decide)]; exact (hw6 b hb).1
      generalize up m6 119 27 (-1) = m7 at F7 h29 h30 h129 ⊢
      rw [cl_nI (show b < 2 ^ 31 by omega), h129]
      have hHm7 := F7.rh hH
      have keep : (∀ r, wo b = some r → GS (nB a) (nR a) L T (dR d) b (wo0 b) r → ∃ x, g = some x ∧ pbO L b r ≤ pbO L b x) → Ev l (h + 5) m_R_laysGains 32 ([.ref 119, .int (nI b), .int (oI (wo0 b)), .int (nI i + 1), .retAddr 0, .retAddr 0], [], st m7 ml z) (qV Q) := fun hk => by
        rw [nI_1]
        refine ih m7 g F7 (hI.step (fun tr' wo' r hv' hwo' e hg => ?_)) h29 h30
        rw [hv] at hv'
        cases hv'
        refine hk r ?_ hg
        rw [worst_uniq hR4 hwo.1 hwo'.1 hwo.2 hwo'.2 b hb]
        exact e
      cases ew : wo b with
      | none => exact ⟨fun _ => keep (fun r e => by rw [ew] at e; cases e), fun q => absurd rfl q⟩
      | some r =>
        have hr := (hw6 b hb).2 r ew
        have hout := out_gts hB6 hR4 hb hwo ew
        rw [show oI (some r) = nI r from rfl]
        have keep' : (GS (nB a) (nR a) L T (dR d) b (wo0 b) r → ∃ x, g = some x ∧ pbO L b r ≤ pbO L b x) → Ev l (h + 5) m_R_laysGains 32 ([.ref 119, .int (nI b), .int (oI (wo0 b)), .int (nI i + 1), .retAddr 0, .retAddr 0], [], st m7 ml z) (qV Q) := fun hk => keep (fun r' e => by rw [ew] at e; cases e; exact hk)
        have take : GS (nB a) (nR a) L T (dR d) b (wo0 b) r → (∀ x, g = some x → pbO L b x < pbO L b r) → Ev l (h + 5) m_R_laysGains 32 ([.ref 119, .int (nI b), .int (oI (wo0 b)), .int (nI i + 1), .retAddr 0, .retAddr 0], [], st (up (up m7 119 29 (nI r)) 119 30 (nI i)) ml z) (qV Q) := fun hg hbt => by
          rw [nI_1]
          have ei := hI.new hB6 hR4 hb hv hwo ew hg hbt
          refine ih _ (some r) ((F7.trans (FG.u119 _ _ (by decide))).trans (FG.u119 _ _ (by decide))) (hI.take hR4 hb hv hwo ew hg hbt) (by rw [up_nk _ _ _ (by decide), up_at]; rfl) (by rw [up_at, ei]; rfl)
        have hd6 := hHm7.b6
        have hL7 : Lk m7 126 = L := hHm7.2.2.2.2.1
        have gone : GS (nB a) (nR a) L T (dR d) b (wo0 b) r → ((oI g = -1 → Ev l (h + 5) m_R_laysGains 32 ([.ref 119, .int (nI b), .int (oI (wo0 b)), .int (nI i + 1), .retAddr 0, .retAddr 0], [], st (up (up m7 119 29 (nI r)) 119 30 (nI i)) ml z) (qV Q)) ∧ (¬ oI g = -1 → ((nI r = oI g → Ev l (h + 5) m_R_laysGains 32 ([.ref 119, .int (nI b), .int (oI (wo0 b)), .int (nI i + 1), .retAddr 0, .retAddr 0], [], st m7 ml z) (qV Q)) ∧ (¬ nI r = oI g → CI l (h + 4) m_R_likesMore [.ref 119, .int (nI b), .int (nI r), .int (oI g)] m7 ml z (fun x19 mi19 ml19 z19 => ((¬ x19 = 0 → Ev l (h + 5) m_R_laysGains 32 ([.ref 119, .int (nI b), .int (oI (wo0 b)), .int (nI i + 1), .retAddr 0, .retAddr 0], [], st (up (up mi19 119 29 (nI r)) 119 30 (nI i)) ml19 z19) (qV Q)) ∧ (x19 = 0 → Ev l (h + 5) m_R_laysGains 32 ([.ref 119, .int (nI b), .int (oI (wo0 b)), .int (nI i + 1), .retAddr 0, .retAddr 0], [], st mi19 ml19 z19) (qV Q)))))))) := fun hg => by
          cases eg : g with
          | none => exact ⟨fun _ => take hg (fun x e => by rw [eg] at e; cases e), fun q => absurd rfl q⟩
          | some x =>
            have hx : x < nR a := by rw [eg] at hI; exact hI.1.1
            refine ⟨fun q => absurd q (neg1_ne (by omega)), fun _ => ⟨fun q => keep' (fun _ => ⟨x, eg, ?_⟩), fun q => c_R_likesMore hB6 hR4 hd6 hb hx hr ?_⟩⟩
            · rw [nI_inj (by omega) (by omega) q]; exact Int.le_refl _
            · rw [hL7]
              refine ⟨fun k => take hg (fun x' e => ?_), fun k => keep' (fun _ => ⟨x, eg, ?_⟩)⟩
              · rw [eg] at e
                cases e
                rw [bI_0, decide_eq_false_iff_not, Decidable.not_not] at k
                exact k
              · rw [bI_0, decide_eq_false_iff_not] at k
                omega
        rw [h29]
        refine ⟨fun q => absurd q (neg1_ne (by omega)), fun _ => ?_⟩
        cases et : wo0 b with
        | none =>
          rw [et] at gone keep'
          refine ⟨fun q => absurd rfl q, fun _ => ⟨ix_in (by omega) (by omega), ?_⟩⟩
          rw [ix_cl (by omega) (by omega)]
          have eL : (m7 126 (4 * b + r)).toInt = L b r := by rw [← hL7]; rfl
          refine ⟨fun q => keep' (fun hg => ?_), fun q => gone ⟨hr, ?_, fun t0 e => (by cases e), hout.2.2⟩⟩
          · rw [le0, eL] at q
            have := hg.2.1
            simp [wdO] at this
            exact absurd this.1 q
          · rw [le0, eL, Decidable.not_not] at q
            simp [wdO, q, hout.2.1]
        | some t0 =>
          have ht0 := ht t0 et
          have hwt := (hwo0.1.1 b t0 hb et).2
          rw [et] at gone keep'
          rw [show oI (some t0) = nI t0 from rfl] at gone keep' ⊢
          refine ⟨fun _ => ⟨fun q => keep' (fun hg => ?_), fun q => c_R_likesMore hB6 hR4 hd6 hb ht0 hr ?_⟩, fun q => absurd q (neg1_ne (by omega))⟩
          · have := hg.2.2.1 t0 rfl
            rw [nI_inj (by omega) (by omega) q] at this
            omega
          · rw [hL7, h29]
            refine ⟨fun k => keep' (fun hg => ?_), fun k => gone ⟨hr, ?_, fun t1 e => ?_, hout.2.2⟩⟩
            · rw [bI_0, decide_eq_false_iff_not] at k
              exact absurd (hg.2.2.1 t0 rfl) k
            · rw [bI_0, decide_eq_false_iff_not, Decidable.not_not] at k
              simp [wdO] at hwt
              have : 0 < L b r := by unfold pbO at k; omega
              simp [wdO, this, hout.2.1]
            · cases e
              rw [bI_0, decide_eq_false_iff_not, Decidable.not_not] at k
              exact k
    · rw [nI_1]
      exact ih m4 g (F.trans (FG.of F4 (by simp))) (hI.step (fun tr wo r hv' => by rw [hv] at hv'; cases hv')) (by rw [F4 119 (by decide)]; exact e1) (by rw [F4 119 (by decide)]; exact e2)
theorem c_R_gains {l : Launch} {h : Nat} {mi : TMi} {ml : TMl} {z : Nat} {a : Ln} {d : Dt} {x : Int32} {Q : Int32 → TMi → TMl → Nat → Prop} (hA : RA mi a d) (hq1 : inB a x → ∀ mi' g, FQ mi mi' → gainA a d x.toInt.toNat g → Q (oI g) mi' ml z) (hq0 : ¬ inB a x → ∀ mi', FQ mi mi' → Q (-2) mi' ml z) : CI l (h + 6) m_R_gains [.ref 119, .int x] mi ml z Q := by
  have F0 : FQ mi (up mi 119 0 0) := FQ.u119 _ _ (by decide)
  have hA0 := hA.q F0
  refine t_R_gains mi ml z _ (c_R_isBeck hA0.2.2.2.1.1 hA.1.1 ?_)
  rw [t64]
  refine ⟨fun c => ?_, fun c => ?_⟩
  · rw [bI_0, Bool.not_eq_false, decide_eq_true_eq] at c
    obtain ⟨ex, hb⟩ := inB_nI (a := a) c
    have hq1 := hq1 c
    generalize x.toInt.toNat = b at ex hb hq1
    rw [ex]
    refine c_R_laysGains hA0 hb (fun m g F hg e1 e2 => ?_)
    rw [e1]
    exact hq1 m g (F0.trans F) hg
  · rw [bI_0, decide_eq_false_iff_not] at c
    exact hq0 c _ F0
theorem c_R_lie {l : Launch} {h : Nat} {mi : TMi} {ml : TMl} {z : Nat} {a : Ln} {d : Dt} {x : Int32} {Q : Int32 → TMi → TMl → Nat → Prop} (hA : RA mi a d) (hq1 : inB a x → ∀ mi' g, FQ mi mi' → gainA a d x.toInt.toNat g → Q (lieA g) mi' ml z) (hq0 : ¬ inB a x → ∀ mi', FQ mi mi' → Q (-2) mi' ml z) : CI l (h + 6) m_R_lie [.ref 119, .int x] mi ml z Q := by
  have F0 : FQ mi (up mi 119 0 0) := FQ.u119 _ _ (by decide)
  have hA0 := hA.q F0
  refine t_R_lie mi ml z _ (c_R_isBeck hA0.2.2.2.1.1 hA.1.1 ?_)
  rw [t64]
  refine ⟨fun c => ?_, fun c => ?_⟩
  · rw [bI_0, Bool.not_eq_false, decide_eq_true_eq] at c
    obtain ⟨ex, hb⟩ := inB_nI (a := a) c
    have hq1 := hq1 c
    generalize x.toInt.toNat = b at ex hb hq1
    rw [ex]
    refine c_R_laysGains hA0 hb (fun m g F hg e1 e2 => ?_)
    rw [e2]
    exact hq1 m g (F0.trans F) hg
  · rw [bI_0, decide_eq_false_iff_not] at c
    exact hq0 c _ F0
theorem c_R_liars {l : Launch} {h : Nat} {mi : TMi} {ml : TMl} {z : Nat} {a : Ln} {d : Dt} {Q : Int32 → TMi → TMl → Nat → Prop} (hA : RA mi a d) (hq : ∀ mi' x, FQ mi mi' → liaA a d x → Q x mi' ml z) : CI l (h + 6) m_R_liars [.ref 119] mi ml z Q := by
  have hB6 := hA.1.1
  have hR4 := hA.1.2.1
  have F0 : FQ mi (up mi 119 0 0) := FQ.u119 _ _ (by decide)
  refine t_R_liars mi ml z ?_
  refine loop (P := fun i => ∀ m p, FQ mi m → (∀ b, b < i → ∃ g, gainA a d b g ∧ p b = g.isSome) → Ev l (h + 6) m_R_liars 9 ([.ref 119, .int (nI (enc p i)), .int (nI i)], [], st m ml z) (qI Q)) (nB a) (fun m p F hp => ?_) (fun i hi ih m p F hp => ?_) _ (fun _ => false) F0 (fun b hb => absurd hb (Nat.not_lt_zero _))
  · have hAm := hA.q F
    exact t_R_liars_9 m ml z _ _ ⟨fun _ => hq m _ F ⟨p, rfl, hp⟩, fun c => absurd (le_at hAm.2.2.2.1.1 (by omega)) c⟩
  · have hAm := hA.q F
    refine t_R_liars_9 m ml z _ _ ⟨fun c => absurd c (ge_no hAm.2.2.2.1.1 (by omega) hi), fun _ => c_R_laysGains hAm hi (fun m2 g F2 hg e1 e2 => ?_)⟩
    have ep : enc p i = enc (fun b => if b = i then g.isSome else p b) i := enc_congr (fun b hb => by simp [show ¬ b = i by omega])
    have ih := ih m2 (fun b => if b = i then g.isSome else p b) (F.trans F2) (fun b hb => by
      by_cases e : b = i
      · subst e; exact ⟨g, hg, by simp⟩
      · simp only [e, if_false]; exact hp b (by omega))
    rw [nI_1, ep, e1]
    cases g with
    | none =>
      rw [Int32.or_zero, enc_skip (p := fun b => if b = i then (none : Option Nat).isSome else p b) (by simp)]
      exact ⟨fun q => absurd rfl q, fun _ => ih⟩
    | some r =>
      have := gainA_lt hg
      refine ⟨fun _ => ?_, fun q => absurd q (neg1_ne (by omega))⟩
      rw [enc_step (p := fun b => if b = i then (some r).isSome else p b) (by omega) (by simp)]
      exact ih
