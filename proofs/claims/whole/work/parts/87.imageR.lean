/-! ===== image and restore of the reference ===== -/
theorem RLaw.cp {g g' : Nat → Int32} {w : Nat} {f : (Nat → Int32) → Int32} (hw : w < 2) (h : RLaw g w f) (e : ∀ k, k < 1371 → k < 29 ∨ 471 ≤ k → g' k = g k) : RLaw g' w f := by
  rcases h with ⟨h1, h2⟩ | ⟨h1, fr, cs, h2, h3, h4, h5, h6⟩
  · exact Or.inl ⟨by rw [e _ (by omega) (by omega)]; exact h1, h2⟩
  · refine Or.inr ⟨by rw [e _ (by omega) (by omega)]; exact h1, fr, cs, by rw [e _ (by omega) (by omega)]; exact h2, by rw [e _ (by omega) (by omega)]; exact h3, h4, fun k hk => ?_, h6⟩
    rw [e _ (by omega) (by omega)]
    exact h5 k hk
theorem LnR.cp {g g' : Nat → Int32} {a : Ln} (h : LnR g a) (ha : okLn a) (e : ∀ k, k < 1371 → k < 29 ∨ 471 ≤ k → g' k = g k) : LnR g' a := by
  obtain ⟨h1, h2, h3, h4, h5, h6, h7, h8, h9⟩ := h
  have hB := ha.1
  have hR := ha.2.1
  refine ⟨by rw [e _ (by omega) (by omega)]; exact h1, by rw [e _ (by omega) (by omega)]; exact h2, by rw [e _ (by omega) (by omega)]; exact h3, fun b hb => by rw [e _ (by omega) (by omega)]; exact h4 b hb, fun b hb => by rw [e _ (by omega) (by omega)]; exact h5 b hb, fun b hb => by rw [e _ (by omega) (by omega)]; exact h6 b hb, fun b hb => by rw [e _ (by omega) (by omega)]; exact h7 b hb, h8.cp (by decide) e, h9.cp (by decide) e⟩
theorem ix1371 {i k : Nat} (hi : i < 2) (hk : k < 1371) : (((1371 : Int32) * (nI i + 1)) + nI k).toNatClampNeg = 1371 * (i + 1) + k ∧ vp_in (((1371 : Int32) * (nI i + 1)) + nI k) 4113 := by
  have e : ((1371 : Int32) * (nI i + 1)) + nI k = nI (1371 * (i + 1) + k) := by rw [nI_1, show (1371 : Int32) * nI (i + 1) = nI (1371 * (i + 1)) from mulL 1371 (i + 1), nI_add]
  rw [e]
  exact ⟨cl_nI (by omega), in_nI (by omega) (by decide)⟩
theorem in01 (x : Int32) : ((0 : Int64).toInt ≤ x.toInt64.toInt ∧ x.toInt64.toInt ≤ (1 : Int64).toInt) ↔ inI x := by
  rw [t64, show (0 : Int64).toInt = 0 by decide, show (1 : Int64).toInt = 1 by decide]
  exact ⟨fun k => ⟨k.1, by omega⟩, fun k => ⟨k.1, by have := k.2; omega⟩⟩
theorem c_R_image {l : Launch} {h : Nat} {mi : TMi} {ml : TMl} {z : Nat} {a : Ln} {d : Dt} {hs : List Dt} {im : Nat → Option (Ln × Dt)} {ty : Ty} {n : Nat} {tp : Nat → Nat} {fk fp x : Int32} {Q : Int32 → TMi → TMl → Nat → Prop} (hI : IR mi ml a d hs im ty n tp fk fp) (hlen : hs.length ≤ 10) (hok : ∀ i a' d', i < 2 → im i = some (a', d') → okLn a')
    (hq0 : ¬ inI x → ∀ m3, (∀ n, n < 119 → m3 n = mi n) → IR m3 ml a d hs im ty n tp fk fp → Q (-2) m3 ml z) (hq1 : inI x → ∀ m3, (∀ n, n < 119 → m3 n = mi n) → IR m3 ml a d hs (setI im x.toInt.toNat (a, d)) ty n tp fk fp → Q 0 m3 ml z) : CI l (h + 2) m_R_image [.ref 119, .int x] mi ml z Q := by
  have F0 : FQ mi (up mi 119 0 0) := FQ.u119 _ _ (by decide)
  have hI0 := hI.fr (F0.x hI.1)
  have G0 : ∀ q, q < 119 → (up mi 119 0 0) q = mi q := fun q hq => F0.1 q (by omega)
  refine t_R_image mi ml z _ (c_R_within ?_)
  rw [bI_0]
  generalize up mi 119 0 0 = m0 at hI0 G0 ⊢
  refine ⟨fun c => ?_, fun c => ?_⟩
  · rw [Bool.not_eq_false, decide_eq_true_eq, in01] at c
    have hq1 := hq1 c
    obtain ⟨ex, hi⟩ := inI_nI c
    generalize x.toInt.toNat = i at ex hi hq1
    rw [ex]
    refine loop (P := fun k => ∀ m, Fr [120] m0 m → (∀ j, j < k → m 120 (1371 * (i + 1) + j) = m0 120 j) → (∀ j, j < 1371 * (i + 1) ∨ 1371 * (i + 2) ≤ j → m 120 j = m0 120 j) → Ev l (h + 2) m_R_image 20 ([.ref 119, .int (nI i), .int (nI k)], [], st m ml z) (qI Q)) 1371 (fun m F E1 E2 => ?_) (fun k hk ih m F E1 E2 => ?_) m0 (Fr.refl _ _) (fun j hj => absurd hj (Nat.not_lt_zero _)) (fun _ _ => rfl)
    · refine t_R_image_20 m ml z _ _ ⟨fun _ => ⟨in_nI hi (by decide), ?_⟩, fun c => absurd (by decide) c⟩
      rw [cl_nI (show i < 2 ^ 31 by omega)]
      have U : ∀ q, q ≠ 121 → (up m 121 i (vp_nar .boolean 1)) q = m q := fun q hq => up_ne _ _ _ hq
      obtain ⟨h1, h2, h3, h4, h5, h6, h7⟩ := hI0
      have e9 : (up m 121 i (vp_nar .boolean 1)) 119 = m0 119 := by rw [U 119 (by decide), F 119 (by decide)]
      have e0 : ∀ j, j < 1371 * (i + 1) ∨ 1371 * (i + 2) ≤ j → (up m 121 i (vp_nar .boolean 1)) 120 j = m0 120 j := fun j hj => by rw [U 120 (by decide)]; exact E2 j hj
      refine hq1 _ (fun q hq => by rw [U q (by omega), F q (by simp; omega)]; exact G0 q hq) ⟨⟨h1.1, h1.2.1, h1.2.2.1, h1.2.2.2.1.cp h1.1 (fun k hk _ => e0 k (by omega)), h1.2.2.2.2.ext (fun k hk => e0 _ (by omega))⟩, ⟨by rw [e0 69 (by omega)]; exact h2.1, fun j d' hj => (h2.2 j d' hj).ext (fun k hk => e0 _ (by omega))⟩, fun j hj => ?_, h4.fr (by rw [U 134 (by decide), F 134 (by decide)]) (by rw [U 135 (by decide), F 135 (by decide)]), ⟨by rw [e9]; exact h5.1, fun j hj => by rw [U 122 (by decide), F 122 (by decide)]; exact h5.2 j hj⟩, by rw [e9]; exact h6, by rw [e9]; exact h7⟩
      by_cases q : j = i
      · subst q
        refine ⟨by rw [up_at]; simp only [setI, if_true]; rfl, fun a' d' e => ?_⟩
        simp only [setI, if_true, Option.some.injEq, Prod.mk.injEq] at e
        obtain ⟨q1, q2⟩ := e
        subst q1 q2
        rw [U 120 (by decide)]
        exact ⟨h1.2.2.1, h1.2.2.2.1.cp h1.1 (fun k hk _ => E1 k hk), h1.2.2.2.2.ext (fun k hk => E1 _ (by omega))⟩
      · refine ⟨?_, fun a' d' e => ?_⟩
        · rw [up_nk _ _ _ q, F 121 (by decide)]; simp only [setI, if_neg q]; exact (h3 j hj).1
        · simp only [setI, if_neg q] at e
          obtain ⟨g1, g2, g3⟩ := (h3 j hj).2 a' d' e
          exact ⟨g1, g2.cp (hok j a' d' hj e) (fun k hk _ => e0 _ (by omega)), g3.ext (fun k hk => e0 _ (by omega))⟩
    · refine t_R_image_20 m ml z _ _ ⟨fun c => absurd c (ge_no (N := 1371) rfl (by decide) hk), fun _ => ⟨in_nI (by omega) (by decide), (ix1371 hi hk).2, ?_⟩⟩
      rw [(ix1371 hi hk).1, cl_nI (show k < 2 ^ 31 by omega), nI_1, E2 k (by omega)]
      refine ih _ (F.step (Fr_up _ _ _ _)) (fun j hj => ?_) (fun j hj => by rw [up_nk _ _ _ (by omega)]; exact E2 j hj)
      by_cases e : j = k
      · rw [e, up_at]
      · rw [up_nk _ _ _ (by omega)]; exact E1 j (by omega)
  · rw [decide_eq_false_iff_not, in01] at c
    exact hq0 c _ G0 hI0
theorem c_R_restore {l : Launch} {h : Nat} {mi : TMi} {ml : TMl} {z : Nat} {a : Ln} {d : Dt} {hs : List Dt} {im : Nat → Option (Ln × Dt)} {ty : Ty} {n : Nat} {tp : Nat → Nat} {fk fp x : Int32} {Q : Int32 → TMi → TMl → Nat → Prop} (hI : IR mi ml a d hs im ty n tp fk fp) (hok : ∀ i a' d', i < 2 → im i = some (a', d') → okLn a' ∧ okD a' d')
    (hq0 : ¬ inI x → ∀ m3, (∀ n, n < 119 → m3 n = mi n) → IR m3 ml a d hs im ty n tp fk fp → Q (-2) m3 ml z) (hq1 : inI x → im x.toInt.toNat = none → ∀ m3, (∀ n, n < 119 → m3 n = mi n) → IR m3 ml a d hs im ty n tp fk fp → Q (-5) m3 ml z) (hq2 : inI x → ∀ a' d' m3, im x.toInt.toNat = some (a', d') → (∀ n, n < 119 → m3 n = mi n) → IR m3 ml a' d' [] im ty n tp fk fp → Q 0 m3 ml z) : CI l (h + 2) m_R_restore [.ref 119, .int x] mi ml z Q := by
  have F0 : FQ mi (up mi 119 0 0) := FQ.u119 _ _ (by decide)
  have hI0 := hI.fr (F0.x hI.1)
  have G0 : ∀ q, q < 119 → (up mi 119 0 0) q = mi q := fun q hq => F0.1 q (by omega)
  refine t_R_restore mi ml z _ (c_R_within ?_)
  rw [bI_0]
  generalize up mi 119 0 0 = m0 at hI0 G0 ⊢
  refine ⟨fun c => ?_, fun c => ?_⟩
  · rw [Bool.not_eq_false, decide_eq_true_eq, in01] at c
    have hq1 := hq1 c
    have hq2 := hq2 c
    obtain ⟨ex, hi⟩ := inI_nI c
    generalize x.toInt.toNat = i at ex hi hq1 hq2
    obtain ⟨h1, h2, h3, h4, h5, h6, h7⟩ := id hI0
    rw [ex, cl_nI (show i < 2 ^ 31 by omega), (h3 i hi).1, bI_0]
    refine ⟨in_nI hi (by decide), fun c3 => ?_, fun c3 => hq1 (by cases e : im i with | none => rfl | some v => rw [e] at c3; cases c3) _ G0 hI0⟩
    obtain ⟨⟨a', d'⟩, e⟩ : ∃ v, im i = some v := by
      cases e : im i with
      | none => rw [e] at c3; exact absurd rfl c3
      | some v => exact ⟨v, rfl⟩
    have hq2 := hq2 a' d'
    obtain ⟨g1, g2, g3⟩ := (h3 i hi).2 a' d' e
    obtain ⟨k1, k2⟩ := hok i a' d' hi e
    refine loop (P := fun k => ∀ m, Fr [120] m0 m → (∀ j, j < k → m 120 j = m0 120 (1371 * (i + 1) + j)) → (∀ j, 1371 ≤ j → m 120 j = m0 120 j) → Ev l (h + 2) m_R_restore 32 ([.ref 119, .int (nI i), .int (nI k)], [], st m ml z) (qI Q)) 1371 (fun m F E1 E2 => ?_) (fun k hk ih m F E1 E2 => ?_) m0 (Fr.refl _ _) (fun j hj => absurd hj (Nat.not_lt_zero _)) (fun _ _ => rfl)
    · refine t_R_restore_32 m ml z _ _ ⟨fun _ => ?_, fun c => absurd (by decide) c⟩
      have U : ∀ q, q ≠ 120 → (up m 120 69 0) q = m0 q := fun q hq => by rw [up_ne _ _ _ hq, F q (by simpa using hq)]
      have e1 : ∀ j, j < 1371 → j ≠ 69 → (up m 120 69 0) 120 j = m0 120 (1371 * (i + 1) + j) := fun j hj hn => by rw [up_nk _ _ _ hn]; exact E1 j hj
      have e2 : ∀ j, 1371 ≤ j → (up m 120 69 0) 120 j = m0 120 j := fun j hj => by rw [up_nk _ _ _ (by omega)]; exact E2 j hj
      refine hq2 _ e (fun q hq => by rw [U q (by omega)]; exact G0 q hq) ⟨⟨k1, k2, g1, g2.cp k1 (fun k hk hk' => e1 k hk (by omega)), g3.ext (fun k hk => e1 _ (by omega) (by omega))⟩, ⟨by rw [up_at]; rfl, fun j d2 hj => by simp at hj⟩, fun j hj => ⟨by rw [U 121 (by decide)]; exact (h3 j hj).1, fun a2 d2 e' => ?_⟩, h4.fr (U 134 (by decide)) (U 135 (by decide)), ⟨by rw [U 119 (by decide)]; exact h5.1, fun j hj => by rw [U 122 (by decide)]; exact h5.2 j hj⟩, by rw [U 119 (by decide)]; exact h6, by rw [U 119 (by decide)]; exact h7⟩
      obtain ⟨p1, p2, p3⟩ := (h3 j hj).2 a2 d2 e'
      exact ⟨p1, p2.cp (hok j a2 d2 hj e').1 (fun k hk _ => e2 _ (by omega)), p3.ext (fun k hk => e2 _ (by omega))⟩
    · refine t_R_restore_32 m ml z _ _ ⟨fun c => absurd c (ge_no (N := 1371) rfl (by decide) hk), fun _ => ⟨(ix1371 hi hk).2, in_nI (by omega) (by decide), ?_⟩⟩
      rw [(ix1371 hi hk).1, cl_nI (show k < 2 ^ 31 by omega), nI_1, E2 _ (by omega)]
      refine ih _ (F.step (Fr_up _ _ _ _)) (fun j hj => ?_) (fun j hj => by rw [up_nk _ _ _ (by omega)]; exact E2 j hj)
      by_cases e : j = k
      · rw [e, up_at]
      · rw [up_nk _ _ _ e]; exact E1 j (by omega)
  · rw [decide_eq_false_iff_not, in01] at c
    exact hq0 c _ G0 hI0
