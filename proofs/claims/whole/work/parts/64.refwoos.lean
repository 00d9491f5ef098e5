/-! ===== woos of the reference ===== -/
def wooA (e : (Nat → Nat) → Bool) (a : Ln) (d : Dt) (x y v : Int32) : Int32 := if inR a x ∧ (v = 0 ∨ (10 ≤ v.toInt ∧ v.toInt < nB a + 10)) then (if 0 ≤ y.toInt ∧ y.toInt ≤ 99 then wooV (wooN e a d x.toInt.toNat 10) v else -3) else -2
theorem ex_e (a : Ln) (d : Dt) (r en : Nat) : ∃ e : (Nat → Nat) → Bool, ∀ w, e w = true ↔ E a d r en w := ⟨fun w => @decide (E a d r en w) (Classical.propDecidable _), fun w => by simp⟩
theorem sub10 {v : Int32} (h : 10 ≤ v.toInt) : (v - 10).toInt = v.toInt - 10 := by
  have := Int32.toInt_lt v
  rw [Int32.toInt_sub, show (10 : Int32).toInt = 10 by decide]
  exact Int.bmod_eq_of_le (by omega) (by omega)
theorem lt10 (v : Int32) : v < 10 ↔ v.toInt < 10 := by rw [Int32.lt_iff_toInt_lt, show (10 : Int32).toInt = 10 by decide]
theorem c_woos_loop {l : Launch} {h : Nat} {mi : TMi} {ml : TMl} {z : Nat} {a : Ln} {d : Dt} {r en : Nat} {v : Int32} {e : (Nat → Nat) → Bool} {Q : Int32 → TMi → TMl → Nat → Prop} (hA : RA mi a d) (hr : r < nR a) (hen : en ≤ 99) (he : ∀ w, e w = true ↔ E a d r en w) (hv : v = 0 ∨ (10 ≤ v.toInt ∧ v.toInt < nB a + 10))
    (hq : ∀ mi', FQ mi mi' → Q (wooV (wooN e a d r 10) v) mi' ml z) : Ev l (h + 11) m_R_woos 57 ([.ref 119, .int (nI r), .int (nI en), .int v, .int 0], [], st mi ml z) (qI Q) := by
  have ha := hA.1
  have hB6 := ha.1
  refine loop (P := fun n => ∀ m, FQ mi m → (∀ x, x < n → fs e (fun b => dG d b r) (nB a) 0 x (fun _ => 0) = none) → Ev l (h + 11) m_R_woos 57 ([.ref 119, .int (nI r), .int (nI en), .int v, .int (nI n)], [], st m ml z) (qI Q)) 10 (fun m F hno => ?_) (fun n hn ih m F hno => ?_) mi (FQ.refl _) (fun x hx => absurd hx (Nat.not_lt_zero _))
  · refine t_R_woos_57 m ml z _ _ _ _ ⟨fun _ => ?_, fun c => absurd (by decide) c⟩
    have := hq m F
    rw [wooN_none hno] at this
    exact this
  · have hAm := hA.q F
    refine t_R_woos_57 m ml z _ _ _ _ ⟨fun c => absurd ((nI_ltI (a := 9) (b := n) (by decide) (by omega)).mp c) (by omega), fun _ => ?_⟩
    rw [show h + 10 = (h + (6 - nB a)) + nB a + 4 by omega]
    refine c_R_goesGifts hr hen he hA.2.1 (nB a) (b := 0) (left := n) (w := fun _ => 0) (by omega) (by omega) (by rw [gv_0]; exact hAm) (fun _ _ => rfl) (fun i => Nat.zero_le _) (fun i hi => absurd hi (Nat.not_lt_zero _)) (fun hf m2 F2 e2 _ => ⟨fun _ => ?_, fun q => absurd rfl q⟩) (fun w' hf m2 F2 e2 k2 => ⟨fun q => absurd q (by decide), fun _ => ?_⟩)
    · rw [nI_1, show h + (6 - nB a) + nB a + 4 + 1 = h + 11 by omega]
      refine ih m2 (F.trans (F2.q e2)) (fun x hx => ?_)
      by_cases q : x = n
      · rw [q]; exact hf
      · exact hno x (by omega)
    · have := hq m2 (F.trans (F2.q e2))
      rw [wooN_some hno hf hn] at this
      simp only [wooV] at this
      refine ⟨fun q => ?_, fun q => ?_⟩
      · have hv' := hv.resolve_left q
        rw [if_neg q] at this
        have e10 := sub10 hv'.1
        have ex := nI_toNat (x := v - 10) (by omega)
        have hlt : (v - 10).toInt.toNat < 6 := by omega
        rw [ex]
        refine ⟨in_nI hlt (by decide), ?_⟩
        rw [cl_nI (by omega), k2 _ (by omega), show (v - 10).toInt.toNat = v.toInt.toNat - 10 by omega]
        exact this
      · rw [if_pos q] at this
        exact this
theorem c_R_woos {l : Launch} {h : Nat} {mi : TMi} {ml : TMl} {z : Nat} {a : Ln} {d : Dt} {x y v : Int32} {e : (Nat → Nat) → Bool} {Q : Int32 → TMi → TMl → Nat → Prop} (hA : RA mi a d) (he : ∀ w, e w = true ↔ E a d x.toInt.toNat y.toInt.toNat w)
    (hq : ∀ mi', FQ mi mi' → Q (wooA e a d x y v) mi' ml z) : CI l (h + 11) m_R_woos [.ref 119, .int x, .int y, .int v] mi ml z Q := by
  have F0 : FQ mi (up mi 119 0 0) := FQ.u119 _ _ (by decide)
  have hA0 := hA.q F0
  have ha := hA.1
  have hB6 := ha.1
  have go : inR a x → (v = 0 ∨ (10 ≤ v.toInt ∧ v.toInt < nB a + 10)) → CI l (h + 10) m_R_within [.long y.toInt64, .long 0, .long 99] (up mi 119 0 0) ml z (fun x9 mi9 ml9 z9 => ((¬ x9 = 0 → Ev l (h + 11) m_R_woos 57 ([.ref 119, .int x, .int y, .int v, .int 0], [], st mi9 ml9 z9) (qI Q)) ∧ (x9 = 0 → Q (-3) mi9 ml9 z9))) := fun hx hv => by
    refine c_R_within ?_
    rw [t64, show (0 : Int64).toInt = 0 by decide, show (99 : Int64).toInt = 99 by decide]
    refine ⟨fun c => ?_, fun c => ?_⟩
    · rw [bI_0, Bool.not_eq_false, decide_eq_true_eq] at c
      obtain ⟨ex, hr⟩ := inR_nI (a := a) hx
      have ey := nI_toNat c.1
      have hq' : ∀ mi', FQ (up mi 119 0 0) mi' → Q (wooV (wooN e a d x.toInt.toNat 10) v) mi' ml z := fun mi' F => by
        have := hq mi' (F0.trans F)
        unfold wooA at this
        rw [if_pos ⟨hx, hv⟩, if_pos c] at this
        exact this
      have hen : y.toInt.toNat ≤ 99 := by omega
      generalize y.toInt.toNat = en at ey he hen
      generalize x.toInt.toNat = r at ex hr hq' he
      rw [ex, ey]
      exact c_woos_loop hA0 hr hen he hv hq'
    · rw [bI_0, decide_eq_false_iff_not] at c
      have := hq _ F0
      unfold wooA at this
      rw [if_pos ⟨hx, hv⟩, if_neg c] at this
      exact this
  refine t_R_woos mi ml z _ _ _ (c_R_isRiver hA0.2.2.2.1.2.1 ha.2.1 ?_)
  rw [t64]
  have no : ¬ (inR a x ∧ (v = 0 ∨ (10 ≤ v.toInt ∧ v.toInt < nB a + 10))) → Q (-2) (up mi 119 0 0) ml z := fun hn => by
    have := hq _ F0
    unfold wooA at this
    rw [if_neg hn] at this
    exact this
  refine ⟨fun c => ?_, fun c => ?_⟩
  · rw [bI_0, decide_eq_false_iff_not] at c
    exact no (fun k => c k.1)
  · rw [bI_0, Bool.not_eq_false, decide_eq_true_eq] at c
    refine ⟨fun q => go c (Or.inl q), fun q => ?_⟩
    rw [lt10]
    refine ⟨fun q2 => no (fun k => by rcases k.2 with k | k; exact q k; omega), fun q2 => c_R_isBeck hA0.2.2.2.1.1 ha.1 ?_⟩
    rw [t64, sub10 (by omega)]
    refine ⟨fun q3 => ?_, fun q3 => ?_⟩
    · rw [bI_0, Bool.not_eq_false, decide_eq_true_eq] at q3
      exact go c (Or.inr ⟨by omega, by omega⟩)
    · rw [bI_0, decide_eq_false_iff_not] at q3
      exact no (fun k => by rcases k.2 with k | k; exact q k; omega)
