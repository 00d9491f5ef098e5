/-! ===== marks and ask of the reference ===== -/
theorem cnt0 {p : Nat → Bool} {n : Nat} (h : cnt p n = 0) : ∀ b, b < n → p b = false := fun b hb => by
  cases e : p b
  · rfl
  · have := cnt_clr (p := p) hb e; omega
theorem enc_cnt0 {p : Nat → Bool} {n : Nat} : enc p n = 0 ↔ cnt p n = 0 := ⟨fun h => cnt_z (enc_zero.mp h), fun h => enc_zero.mpr (cnt0 h)⟩
theorem c_R_marks {l : Launch} {h : Nat} {mi : TMi} {ml : TMl} {z : Nat} {a : Ln} {d : Dt} {ty : Ty} {x y : Int32} {Q : Int32 → TMi → TMl → Nat → Prop} (hA : RA mi a d) (hT : TrR mi ml ty) (hS : ∀ t, t < 4 → ∀ s, ty.1 t = some s → s < 4) (hN : ∀ t, t < 4 → ty.2.1 t ≤ 40) (hq : ∀ mi', FQ mi mi' → Q (marA a d ty x y) mi' ml z) : CI l (h + 6) m_R_marks [.ref 119, .int x, .int y] mi ml z Q := by
  have F0 : FQ mi (up mi 119 0 0) := FQ.u119 _ _ (by decide)
  have hA0 := hA.q F0
  have hT0 : TrR (up mi 119 0 0) ml ty := hT.fr (up_ne _ _ _ (by decide)) (up_ne _ _ _ (by decide))
  unfold marA at hq
  refine t_R_marks mi ml z _ _ (c_R_noAnswers hA0 hT0 hS hN (fun hy e m F hw => ⟨fun _ => ?_, fun k => absurd rfl k⟩) (fun e m F => ⟨fun k => absurd k e, fun _ => ?_⟩))
  · rw [if_pos e] at hq
    obtain ⟨ey, hb⟩ := inB_nI (a := a) hy
    generalize y.toInt.toNat = b at ey hb hq
    rw [ey]
    have F1 : FQ (up mi 119 0 0) m := FQ.of F (fun n hn => by simp; omega)
    exact c_R_marksOf (hA0.q F1) hb hw (fun m2 F2 => hq m2 ((F0.trans F1).trans F2))
  · rw [if_neg e] at hq
    exact hq m (F0.trans (FQ.of F (fun n hn => by simp; omega)))
theorem c_R_ask {l : Launch} {h : Nat} {mi : TMi} {ml : TMl} {z : Nat} {a : Ln} {d : Dt} {ty : Ty} {x y : Int32} {Q : Int32 → TMi → TMl → Nat → Prop} (hA : RA mi a d) (hT : TrR mi ml ty) (hS : ∀ t, t < 4 → ∀ s, ty.1 t = some s → s < 4) (hN : ∀ t, t < 4 → ty.2.1 t ≤ 40) (hq : ∀ mi', FQ mi mi' → Q (askV a d ty x y) mi' ml z) : CI l (h + 6) m_R_ask [.ref 119, .int x, .int y] mi ml z Q := by
  have F0 : FQ mi (up mi 119 0 0) := FQ.u119 _ _ (by decide)
  have hA0 := hA.q F0
  have hT0 : TrR (up mi 119 0 0) ml ty := hT.fr (up_ne _ _ _ (by decide)) (up_ne _ _ _ (by decide))
  have ha := hA.1
  have hB6 := ha.1
  have hR4 := ha.2.1
  unfold askV at hq
  refine t_R_ask mi ml z _ _ (c_R_noAnswers hA0 hT0 hS hN (fun hy e m F hw => ⟨fun _ => ?_, fun k => absurd rfl k⟩) (fun e m F => ⟨fun k => absurd k e, fun _ => ?_⟩))
  · rw [if_pos e] at hq
    obtain ⟨ey, hb⟩ := inB_nI (a := a) hy
    generalize y.toInt.toNat = b at ey hb hq
    rw [ey]
    have F1 : FQ (up mi 119 0 0) m := FQ.of F (fun n hn => by simp; omega)
    refine c_R_marksOf (hA0.q F1) hb hw (fun m2 F2 => ?_)
    have F02 := (F0.trans F1).trans F2
    have hA2 := hA.q F02
    have hin : vp_in ((9 : Int32) + nI b) 4113 := in_addL (a := 9) (by omega) (by decide)
    rw [addL_cl 9 b (by omega)]
    refine ⟨hin, ?_⟩
    generalize woT ty x.toInt.toNat = wo at hq ⊢
    unfold askA2 at hq
    have hdone : ∀ m', FM b m2 m' → ∀ v, (∀ mi', FQ mi mi' → Q v mi' ml z) → (vp_in ((9 : Int32) + nI b) 4113) ∧ Q v (up m' 120 (((9 : Int32) + nI b).toNatClampNeg) (m2 120 (9 + b))) ml z := fun m' F' v hv => ⟨hin, by rw [addL_cl 9 b (by omega)]; exact hv _ (F02.trans ((F'.trans (FM.up b m' _)).q (up_at _ _ _ _)).1)⟩
    have h10 := cnt_le (hdM a d b wo) 10
    by_cases q0 : cnt (hdM a d b wo) 10 = 0
    · rw [if_pos q0] at hq
      rw [enc_cnt0.mpr q0]
      refine t_R_ask_46 m2 ml z _ _ _ _ _ _ ⟨fun _ => hdone m2 (FM.refl _ _) _ hq, fun _ => ⟨fun _ => hdone m2 (FM.refl _ _) _ hq, fun c => absurd rfl c⟩⟩
    · rw [if_neg q0] at hq
      have hlt := enc_lt (hdM a d b wo) 10
      have hne : ¬ nI (enc (hdM a d b wo) 10) = 0 := fun c => q0 (enc_cnt0.mp (nI_inj (b := 0) (by omega) (by decide) c))
      refine loop (P := fun i => ∀ m', FM b m2 m' → Ev l (h + 6) m_R_ask 46 ([.ref 119, .retAddr 0, .int (nI b), .retAddr 0, .int (nI (enc (hdM a d b wo) 10)), .int (m2 120 (9 + b)), .int (oI (lst (fun _ => true) (fun r => - (itsM a d b wo r : Int)) i)), .int (mostQ (itsM a d b wo) (lst (fun _ => true) (fun r => - (itsM a d b wo r : Int)) i)), .int (nI i), .retAddr 0, .retAddr 0, .retAddr 0], [], st m' ml z) (qI Q)) (nR a) (fun m' F' => ?_) (fun i hi ih m' F' => ?_) m2 (FM.refl _ _)
      · have e2 : m' 120 2 = nI (nR a) := by rw [F'.2 2 (by omega)]; exact hA2.2.2.2.1.2.1
        exact t_R_ask_46 m' ml z _ _ _ _ _ _ ⟨fun _ => hdone m' F' _ hq, fun c => absurd (le_at e2 (by omega)) c⟩
      · have e2 : m' 120 2 = nI (nR a) := by rw [F'.2 2 (by omega)]; exact hA2.2.2.2.1.2.1
        refine t_R_ask_46 m' ml z _ _ _ _ _ _ ⟨fun c => absurd c (ge_no e2 (by omega) hi), fun _ => ⟨fun c => absurd c hne, fun _ => ?_⟩⟩
        refine loop (P := fun k => ∀ m3, FM b m2 m3 → Ev l (h + 6) m_R_ask 68 ([.ref 119, .retAddr 0, .int (nI b), .retAddr 0, .int (nI (enc (hdM a d b wo) 10)), .int (m2 120 (9 + b)), .int (oI (lst (fun _ => true) (fun r => - (itsM a d b wo r : Int)) i)), .int (mostQ (itsM a d b wo) (lst (fun _ => true) (fun r => - (itsM a d b wo r : Int)) i)), .int (nI i), .int (nI (cnt (wdM a d b wo i) k)), .int (nI k), .retAddr 0], [], st m3 ml z) (qI Q)) 10 (fun m3 F3 => ?_) (fun k hk ihk m3 F3 => ?_) m' F'
        · refine t_R_ask_68 m3 ml z _ _ _ _ _ _ _ _ ⟨fun _ => c_R_marksIn ?_, fun c => absurd (by decide) c⟩
          have hle := wd_le (a := a) (d := d) (b := b) (r := i) (wo := wo)
          rw [sub_nI (by omega) hle, nI_leI (by omega) (by omega), nI_1]
          have h10i : ∀ r, itsM a d b wo r ≤ 10 := fun r => by unfold itsM; have := wd_le (a := a) (d := d) (b := b) (r := r) (wo := wo); omega
          have hi10 := h10i i
          have ih := ih m3 F3
          rw [lst_q] at ih
          have hlt2 : ∀ n, n ≤ 10 → n = itsM a d b wo i → ((mostQ (itsM a d b wo) (lst (fun _ => true) (fun r => - (itsM a d b wo r : Int)) i) < nI n → Ev l (h + 6) m_R_ask 46 ([.ref 119, .retAddr 0, .int (nI b), .retAddr 0, .int (nI (enc (hdM a d b wo) 10)), .int (m2 120 (9 + b)), .int (nI i), .int (nI n), .int (nI (i + 1)), .retAddr 0, .retAddr 0, .retAddr 0], [], st m3 ml z) (qI Q)) ∧ (¬ mostQ (itsM a d b wo) (lst (fun _ => true) (fun r => - (itsM a d b wo r : Int)) i) < nI n → Ev l (h + 6) m_R_ask 46 ([.ref 119, .retAddr 0, .int (nI b), .retAddr 0, .int (nI (enc (hdM a d b wo) 10)), .int (m2 120 (9 + b)), .int (oI (lst (fun _ => true) (fun r => - (itsM a d b wo r : Int)) i)), .int (mostQ (itsM a d b wo) (lst (fun _ => true) (fun r => - (itsM a d b wo r : Int)) i)), .int (nI (i + 1)), .retAddr 0, .retAddr 0, .retAddr 0], [], st m3 ml z) (qI Q))) := fun n hn en => by
            subst en
            cases ex : lst (fun _ => true) (fun r => - (itsM a d b wo r : Int)) i with
            | none =>
              rw [ex] at ih
              exact ⟨fun _ => ih, fun c => absurd (m1lt (by omega)) c⟩
            | some r0 =>
              rw [ex] at ih
              have hr10 := h10i r0
              simp only [mostQ] at ih ⊢
              rw [nI_ltI (by omega) (by omega)]
              refine ⟨fun c => ?_, fun c => ?_⟩
              · rw [if_pos c] at ih; exact ih
              · rw [if_neg c] at ih; exact ih
          refine ⟨fun c => hlt2 _ (by omega) (by unfold itsM; omega), fun c => hlt2 _ (by omega) (by unfold itsM; omega)⟩
        · refine t_R_ask_68 m3 ml z _ _ _ _ _ _ _ _ ⟨fun c => absurd c (ge_no (N := 10) rfl (by decide) hk), fun _ => ⟨hin, ?_⟩⟩
          rw [addL_cl 9 b (by omega)]
          have F4 := F3.trans (FM.up b m3 (nI k))
          have hA4 := hA2.mark hb (show k ≤ 9 by omega) F4 (up_at _ _ _ _)
          generalize up m3 120 (9 + b) (nI k) = m4 at F4 hA4 ⊢
          refine c_R_isIn (by omega) hk ?_
          rw [enc_tb _ _ _ hk, bI_0, nI_1]
          have go0 : wdM a d b wo i k = false → ∀ m5, FM b m2 m5 → Ev l (h + 6) m_R_ask 68 ([.ref 119, .retAddr 0, .int (nI b), .retAddr 0, .int (nI (enc (hdM a d b wo) 10)), .int (m2 120 (9 + b)), .int (oI (lst (fun _ => true) (fun r => - (itsM a d b wo r : Int)) i)), .int (mostQ (itsM a d b wo) (lst (fun _ => true) (fun r => - (itsM a d b wo r : Int)) i)), .int (nI i), .int (nI (cnt (wdM a d b wo i) k) + 0), .int (nI (k + 1)), .retAddr 0], [], st m5 ml z) (qI Q) := fun e0 m5 F5 => by
            rw [Int32.add_zero, cnt_n (p := wdM a d b wo i) e0]
            exact ihk m5 F5
          refine ⟨fun c => go0 (by simp [wdM, c]) m4 F4, fun c => ?_⟩
          have c' : hdM a d b wo k = true := by simpa using c
          have ew : wdR (m4 120) b i = W0 (mkL a b k) d b i := by
            rw [wdR_wds, cr_fl hA4.2.2.2.2 (by omega), hA4.2.2.2.1.2.2.2.1 b hb, hA4.2.2.2.1.2.2.2.2.2.1 i hi, cr_gf hA4.2.2.2.2 (by omega) (by omega)]
            rfl
          refine c_R_reckons (law := 0) (by decide) (by omega) (by omega) (by rw [ew]; exact okW0 hA4.1 hA4.2.1 hb hi) hA4.2.2.2.1.2.2.2.2.2.2.2.1 (fun m5 F5 => ?_)
          rw [ew, le0]
          have F5' := F4.trans (FM.of F5 (by simp))
          show (¬ 0 < lkD (mkL a b k) d b i → _) ∧ (¬ ¬ 0 < lkD (mkL a b k) d b i → _)
          refine ⟨fun q => go0 (by simp [wdM, q]) m5 F5', fun q => ?_⟩
          rw [Decidable.not_not] at q
          rw [cnt_s (p := wdM a d b wo i) (by simp [wdM, c', q])]
          exact ihk m5 F5'
  · rw [if_neg e] at hq
    exact hq m (F0.trans (FQ.of F (fun n hn => by simp; omega)))
