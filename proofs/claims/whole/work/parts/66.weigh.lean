/-! ===== gifts: weighing all levels of a beck ===== -/
theorem c_Wo_weighGifts {l : Launch} {h : Nat} {m : TMi} {ml : TMl} {z : Nat} {a : Ln} {d : Dt} {r b : Nat} {w : Nat → Nat} {p : Nat → Bool} {Q : TMi → TMl → Nat → Prop} (hA : CA m a d) (h68 : m 68 2 = nI r) (hb : b < nB a) (hr : r < nR a) (ht : TrW m a d r w) (hp : m 68 9 = nI (enc p 6))
    (hq : ∀ m' w' p', Fr [15, 16, 35, 36, 37, 38, 39, 68, 69, 70, 71, 72] m m' → (∀ k, k ≠ 9 → m' 68 k = m 68 k) → TrW m' a d r w' → WL m' a d r b (10 - dG d b r) → m' 72 b = nI (enc (newB a d r b) (10 - dG d b r)) → (∀ j, j < 10 * b ∨ 10 * b + 10 ≤ j → m' 69 j = m 69 j ∧ m' 70 j = m 70 j ∧ m' 71 j = m 71 j) → (∀ i, i ≠ b → m' 72 i = m 72 i) → m' 68 9 = nI (enc p' 6) → (∀ i, p i = true → p' i = true) → (∀ k, k < 10 - dG d b r → ¬ rkL a d r b k = none → p' b = true) → Q m' ml z) : CV l (h + 4) m_Wo_weighGifts [.ref 68, .int (nI b)] m ml z Q := by
  have ha := hA.1
  have hB6 := ha.1
  have hR4 := ha.2.1
  have h9 := hA.2.1.2.2.2.1 b r
  have hin : vp_in (nI b) 6 := in_nI (by omega) (by decide)
  refine t_Wo_weighGifts m ml z _ ?_
  rw [h68]
  refine t_Sc_giftsOf_33 _ _ _ _ _ (t_B_pair _ _ _ _ _ ?_)
  rw [mul4, addL_cl 16 (4 * b + r) (by omega), ht.1.2.2.2 b r (by omega) (by omega)]
  refine ⟨in_addL (a := 16) (by omega) (by decide), hin, ?_⟩
  rw [cl_nI (show b < 2 ^ 31 by omega)]
  have F0 : Fr [15, 16, 35, 36, 37, 38, 39, 68, 69, 70, 71, 72] m (up m 72 b 0) := (Fr_up _ _ _ _).weak (by simp)
  refine loop (P := fun n => ∀ m1 w1 p1, Fr [15, 16, 35, 36, 37, 38, 39, 68, 69, 70, 71, 72] m m1 → (∀ k, k ≠ 9 → m1 68 k = m 68 k) → TrW m1 a d r w1 → WL m1 a d r b n → m1 72 b = nI (enc (newB a d r b) n) → (∀ j, j < 10 * b ∨ 10 * b + 10 ≤ j → m1 69 j = m 69 j ∧ m1 70 j = m 70 j ∧ m1 71 j = m 71 j) → (∀ i, i ≠ b → m1 72 i = m 72 i) → m1 68 9 = nI (enc p1 6) → (∀ i, p i = true → p1 i = true) → (∀ k, k < n → ¬ rkL a d r b k = none → p1 b = true) → Ev l (h + 4) m_Wo_weighGifts 22 ([.ref 68, .int (nI b), .int (nI (dG d b r)), .int (nI n)], [], st m1 ml z) (qV Q)) (10 - dG d b r) (fun m1 w1 p1 F e68 t1 hw e72 eo ei ep hp1 hp2 => ?_) (fun n hn ih m1 w1 p1 F e68 t1 hw e72 eo ei ep hp1 hp2 => ?_) (up m 72 b 0) w p F0 (fun k _ => by rw [up_ne _ _ _ (by decide)]) (ht.fr (fun n h1 h2 => up_ne _ _ _ (by omega))) (fun k hk => absurd hk (Nat.not_lt_zero _)) (up_at _ _ _ _) (fun j _ => ⟨by rw [up_ne _ _ _ (by decide)], by rw [up_ne _ _ _ (by decide)], by rw [up_ne _ _ _ (by decide)]⟩) (fun i hi => up_nk _ _ _ hi) (by rw [up_ne _ _ _ (by decide)]; exact hp) (fun _ k => k) (fun k hk => absurd hk (Nat.not_lt_zero _))
  · refine t_Wo_weighGifts_22 m1 ml z _ _ _ ⟨fun _ => hq m1 w1 p1 F e68 t1 hw e72 eo ei ep hp1 hp2, fun c => absurd ?_ c⟩
    rw [nI_add, show dG d b r + (10 - dG d b r) = 10 by omega]
    decide
  · have hA1 : CA m1 a d := hA.of F (by decide)
    have h68' : m1 68 2 = nI r := by rw [e68 2 (by decide)]; exact h68
    have hx : 10 * b + n < 60 := by omega
    have hin60 : vp_in (nI (10 * b + n)) 60 := in_nI hx (by decide)
    have hin24 : vp_in (nI (4 * b + r)) 24 := in_nI (by omega) (by decide)
    refine t_Wo_weighGifts_22 m1 ml z _ _ _ ⟨fun c => absurd c (fun q => ?_), fun _ => ⟨hin, ?_⟩⟩
    · rw [nI_add] at q
      exact absurd ((nI_ltI (a := 9) (b := dG d b r + n) (by decide) (by omega)).mp q) (by omega)
    · rw [h68', cl_nI (show b < 2 ^ 31 by omega), hA1.2.2.1.2.2.2.1 b hb, nI_add, nI_1]
      refine c_measure_w hA1 hb hr (by omega) t1 (fun m3 F3 t3 => ?_)
      have G68 : m3 68 = m1 68 := F3 68 (by decide)
      have h683 : m3 68 2 = nI r := by rw [G68]; exact h68'
      have v35 : (m3 35 (4 * b + r)).toInt = lkD a (gvD d r (fun _ => n)) b r := by rw [(t3.2.1 b r hb hr trivial).1]; exact put_at.1
      have v36 : (m3 36 (4 * b + r)).toInt = tkD a (gvD d r (fun _ => n)) b r := by rw [(t3.2.1 b r hb hr trivial).2.1]; exact put_at.2
      have F13 : Fr [15, 16, 35, 36, 37, 38, 39, 68, 69, 70, 71, 72] m m3 := F.step (F3.weak (by simp))
      refine t_Wo_level _ _ _ _ _ (t_B_pair _ _ _ _ _ ?_)
      rw [h683, mul10, mul4, cl_nI (show 10 * b + n < 2 ^ 31 by omega), cl_nI (show 4 * b + r < 2 ^ 31 by omega)]
      refine ⟨hin24, hin60, t_Wo_level _ _ _ _ _ (t_B_pair _ _ _ _ _ ?_)⟩
      rw [up_ne _ _ _ (show 68 ≠ 69 by decide), h683, mul10, mul4, cl_nI (show 10 * b + n < 2 ^ 31 by omega), cl_nI (show 4 * b + r < 2 ^ 31 by omega), up_ne _ _ _ (show 36 ≠ 69 by decide)]
      refine ⟨hin24, hin60, t_Wo_level _ _ _ _ _ ⟨?_, ?_⟩⟩
      · rw [mul10]; exact hin60
      · rw [mul10, cl_nI (show 10 * b + n < 2 ^ 31 by omega)]
        have F4 : Fr [69, 70, 71] m3 (up (up (up m3 69 (10 * b + n) (m3 35 (4 * b + r))) 70 (10 * b + n) (m3 36 (4 * b + r))) 71 (10 * b + n) (-1)) := (((Fr_up _ _ _ _).weak (by simp)).step ((Fr_up _ _ _ _).weak (by simp))).step ((Fr_up _ _ _ _).weak (by simp))
        have q69 : ∀ j, (up (up (up m3 69 (10 * b + n) (m3 35 (4 * b + r))) 70 (10 * b + n) (m3 36 (4 * b + r))) 71 (10 * b + n) (-1)) 69 j = if j = 10 * b + n then m3 35 (4 * b + r) else m1 69 j := fun j => by
          rw [up_ne _ _ _ (by decide), up_ne _ _ _ (by decide)]
          by_cases q : j = 10 * b + n
          · subst q; rw [up_at, if_pos rfl]
          · rw [up_nk _ _ _ q, if_neg q, F3 69 (by decide)]
        have q70 : ∀ j, (up (up (up m3 69 (10 * b + n) (m3 35 (4 * b + r))) 70 (10 * b + n) (m3 36 (4 * b + r))) 71 (10 * b + n) (-1)) 70 j = if j = 10 * b + n then m3 36 (4 * b + r) else m1 70 j := fun j => by
          rw [up_ne _ _ _ (by decide)]
          by_cases q : j = 10 * b + n
          · subst q; rw [up_at, if_pos rfl]
          · rw [up_nk _ _ _ q, if_neg q, up_ne _ _ _ (by decide), F3 70 (by decide)]
        have q71 : ∀ j, (up (up (up m3 69 (10 * b + n) (m3 35 (4 * b + r))) 70 (10 * b + n) (m3 36 (4 * b + r))) 71 (10 * b + n) (-1)) 71 j = if j = 10 * b + n then -1 else m1 71 j := fun j => by
          by_cases q : j = 10 * b + n
          · subst q; rw [up_at, if_pos rfl]
          · rw [up_nk _ _ _ q, if_neg q, up_ne _ _ _ (by decide), up_ne _ _ _ (by decide), F3 71 (by decide)]
        generalize up (up (up m3 69 (10 * b + n) (m3 35 (4 * b + r))) 70 (10 * b + n) (m3 36 (4 * b + r))) 71 (10 * b + n) (-1) = m4 at F4 q69 q70 q71 ⊢
        have F14 : Fr [15, 16, 35, 36, 37, 38, 39, 68, 69, 70, 71, 72] m m4 := F13.step (F4.weak (by simp))
        have hA4 : CA m4 a d := hA.of F14 (by decide)
        have t4 : TrW m4 a d r (fun i => if i = b then n else w1 i) := t3.fr (fun k h1 h2 => F4 k (by simp; omega))
        have e684 : m4 68 = m1 68 := by rw [F4 68 (by decide)]; exact G68
        have e724 : m4 72 = m1 72 := by rw [F4 72 (by decide), F3 72 (by decide)]
        rw [show m4 68 2 = nI r by rw [e684]; exact h68']
        -- what is done with a memory that has the level's rank
        have rest : ∀ (m5 : TMi) (p5 : Nat → Bool), Fr [68, 71] m4 m5 → (∀ k, k ≠ 9 → m5 68 k = m4 68 k) → (∀ j, m5 71 j = if j = 10 * b + n then oI (rkL a d r b n) else m4 71 j) → m5 68 9 = nI (enc p5 6) → (∀ i, p1 i = true → p5 i = true) → (¬ rkL a d r b n = none → p5 b = true) → ∀ {h' : Nat}, h' = h + 1 → CI l (h' + 2) m_Wo_isNew [.ref 68, .int (nI b), .int (nI n)] m5 ml z (fun x16 mi16 ml16 z16 => ((x16 = 0 → Ev l (h + 4) m_Wo_weighGifts 22 ([.ref 68, .int (nI b), .int (nI (dG d b r)), .int (nI (n + 1))], [], st mi16 ml16 z16) (qV Q)) ∧ (¬ x16 = 0 → (vp_in (nI b) 6) ∧ (vp_in (nI b) 6) ∧ Ev l (h + 4) m_Wo_weighGifts 22 ([.ref 68, .int (nI b), .int (nI (dG d b r)), .int (nI (n + 1))], [], st (up mi16 72 b ((mi16 72 b) ||| ((1 : Int32) <<< (nI n &&& 31)))) ml16 z16) (qV Q)))) := fun m5 p5 F5 k68 k71 k9 kp kb h' _ => by
          have hw5 : WL m5 a d r b (n + 1) := fun k hk => by
            rw [F5 69 (by decide), F5 70 (by decide), q69, q70, k71, q71]
            by_cases q : k = n
            · subst q; rw [if_pos rfl, if_pos rfl, if_pos rfl]; exact ⟨v35, v36, rfl⟩
            · rw [if_neg (by omega), if_neg (by omega), if_neg (by omega), if_neg (by omega)]; exact hw k (by omega)
          have F15 : Fr [15, 16, 35, 36, 37, 38, 39, 68, 69, 70, 71, 72] m m5 := F14.step (F5.weak (by simp))
          have t5 : TrW m5 a d r (fun i => if i = b then n else w1 i) := t4.fr (fun k h1 h2 => F5 k (by simp; omega))
          have e725 : m5 72 = m1 72 := by rw [F5 72 (by decide)]; exact e724
          have eo5 : ∀ j, j < 10 * b ∨ 10 * b + 10 ≤ j → m5 69 j = m 69 j ∧ m5 70 j = m 70 j ∧ m5 71 j = m 71 j := fun j hj => by
            rw [F5 69 (by decide), F5 70 (by decide), q69, q70, k71, q71, if_neg (by omega), if_neg (by omega), if_neg (by omega), if_neg (by omega)]
            exact eo j hj
          have hp5 : ∀ k, k < n + 1 → ¬ rkL a d r b k = none → p5 b = true := fun k hk hne => by
            by_cases q : k = n
            · subst q; exact kb hne
            · exact kp b (hp2 k (by omega) hne)
          refine c_Wo_isNew ha (by omega) (by omega) hw5 ⟨fun c => ?_, fun c => ⟨hin, hin, ?_⟩⟩
          · rw [bI_0] at c
            refine ih m5 _ p5 F15 (fun k hk => by rw [k68 k hk, e684]; exact e68 k hk) t5 hw5 ?_ eo5 (fun i hi => by rw [e725]; exact ei i hi) k9 (fun i hi => kp i (hp1 i hi)) hp5
            rw [e725, e72, enc_skip c]
          · rw [bI_0] at c
            rw [e725, e72, enc10 (p := newB a d r b) (by omega) (by simpa using c)]
            refine ih _ _ p5 (F15.step ((Fr_up _ _ _ _).weak (by simp))) (fun k hk => by rw [up_ne _ _ _ (by decide), k68 k hk, e684]; exact e68 k hk) (t5.fr (fun k h1 h2 => up_ne _ _ _ (by omega))) (hw5.fr (up_ne _ _ _ (by decide)) (up_ne _ _ _ (by decide)) (up_ne _ _ _ (by decide))) (up_at _ _ _ _) (fun j hj => by rw [up_ne _ _ _ (by decide), up_ne _ _ _ (by decide), up_ne _ _ _ (by decide)]; exact eo5 j hj) (fun i hi => by rw [up_nk _ _ _ hi, e725]; exact ei i hi) (by rw [up_ne _ _ _ (by decide)]; exact k9) (fun i hi => kp i (hp1 i hi)) hp5
        refine c_Sc_bothWould_33 (h := h + 2) hB6 hR4 t4.2 hb hr ?_
        rw [wdO_put, bI_0]
        refine ⟨fun c => ?_, fun c => t_Wo_level _ _ _ _ _ ?_⟩
        · have e0 : rkL a d r b n = none := by unfold rkL; rw [c]; rfl
          exact rest m4 p1 (Fr.refl _ _) (fun _ _ => rfl) (fun j => by rw [e0]; by_cases q : j = 10 * b + n; (rw [if_pos q, q71, if_pos q]; rfl); rw [if_neg q]) (by rw [e684]; exact ep) (fun _ k => k) (fun k => absurd e0 k) rfl
        · have c' : wdO (lkD a (gvD d r (fun _ => n))) (tkD a (gvD d r (fun _ => n))) b r = true := by simpa using c
          have e0 : rkL a d r b n = some (rkO (lkD a (gvD d r (fun _ => n))) (nR a) b r) := by unfold rkL; rw [if_pos c']
          rw [show m4 68 2 = nI r by rw [e684]; exact h68']
          refine c_Sc_rankOf_33 hB6 hA4.2.2.1.2.1 hR4 t4.2 hb hr ?_
          rw [mul10, rkO_put, cl_nI (show 10 * b + n < 2 ^ 31 by omega), up_ne _ _ _ (show 68 ≠ 71 by decide), e684, ep, enc_set (p := p1) (B := 6) (by decide) (show b < 6 by omega)]
          refine ⟨hin60, rest _ (fun i => p1 i || decide (i = b)) ?_ (fun k hk => ?_) (fun j => ?_) ?_ (fun i hi => by simp [hi]) (fun _ => by simp) rfl⟩
          · exact ((Fr_up _ _ _ _).weak (by simp)).step ((Fr_up _ _ _ _).weak (by simp))
          · rw [up_nk _ _ _ hk, up_ne _ _ _ (by decide)]
          · rw [up_ne _ _ _ (by decide), e0]
            by_cases q : j = 10 * b + n
            · subst q; rw [up_at, if_pos rfl]; rfl
            · rw [up_nk _ _ _ q, if_neg q]
          · rw [up_at]
