/-! ===== flooding and staying, on both sides ===== -/
theorem shl7 : ∀ B, B < 7 → (1 : Int32) <<< (nI B &&& 31) = nI (2 ^ B) := by decide
theorem andn6 : ∀ a, a < 64 → ∀ t, t < 64 → nI a &&& (nI t ^^^ (-1)) = nI (a - (a &&& t)) := by decide +kernel
theorem andn6_tb : ∀ a, a < 64 → ∀ t, t < 64 → ∀ i, i < 6 → tb (a - (a &&& t)) i = (tb a i && !tb t i) := by decide +kernel
def flF (a : Ln) (d : Dt) (r s : Nat) : Nat := if flR (nB a) (dF d) (nBs a) (dW d) (fun b => tb s b) r = true then wtS a s else 0
def flP (a : Ln) (d : Dt) (r : Nat) : Nat := smr (flF a d r) (2 ^ nB a)
theorem flF_le {a : Ln} {d : Dt} {r : Nat} (ha : okLn a) (s : Nat) : flF a d r s ≤ 1000000 := by
  unfold flF
  by_cases q : flR (nB a) (dF d) (nBs a) (dW d) (fun b => tb s b) r = true
  · rw [if_pos q]; exact wtS_le ha s
  · rw [if_neg q]; exact Nat.zero_le _
theorem sum_lt {a : Ln} {F : Nat → Nat} (ha : okLn a) (h : ∀ s, F s ≤ 1000000) : smr F (2 ^ nB a) < 2 ^ 31 := by
  have h64 : 2 ^ nB a ≤ 64 := Nat.pow_le_pow_right (show 2 > 0 by decide) ha.1
  have := smr_bd h (n := 2 ^ nB a)
  have : 2 ^ nB a * 1000000 ≤ 64 * 1000000 := Nat.mul_le_mul_right _ h64
  omega
theorem c_chance_tell {l : Launch} {h : Nat} {mi : TMi} {ml : TMl} {z : Nat} {a : Ln} {p : Nat} {Q : TMi → TMl → Nat → Prop} (ha : okLn a) (hl : LnC mi 18 a) (hp : p < 2 ^ 31) (hq : ∀ mi', Fr [75] mi mi' → mi' 75 5 = fracV a p 0 → mi' 75 6 = fracV a p 1 → Q mi' ml z) : CI l (h + 1) m_Su_wholeOf [.ref 18] mi ml z (fun x3 mi3 ml3 z3 => CV l (h + 1) m_Su_tellInLowestTerms [.ref 75, .int (nI p), .int x3] mi3 ml3 z3 (fun mi4 ml4 z4 => Q mi4 ml4 z4)) := by
  have hw6 : 10 ^ nB a ≤ 10 ^ 6 := Nat.pow_le_pow_right (by decide) ha.1
  have h6 : (10 : Nat) ^ 6 = 1000000 := by decide
  refine c_Su_wholeOf ha hl (c_Su_tell hp (by omega) (Nat.pow_pos (by decide)) (hq _ (((Fr_up _ _ _ _).weak (by simp)).step ((Fr_up _ _ _ _).weak (by simp))) ?_ ?_))
  · rw [up_nk _ _ _ (by decide), up_at, Nat.gcd_comm]; rfl
  · rw [up_at, Nat.gcd_comm]; rfl
theorem c_Su_chanceOfFlood {l : Launch} {h : Nat} {mi : TMi} {ml : TMl} {z : Nat} {a : Ln} {d : Dt} {r : Nat} {Q : TMi → TMl → Nat → Prop} (hA : CA mi a d) (hr : r < nR a) (hq : ∀ mi', Fr SC mi mi' → mi' 75 5 = fracV a (flP a d r) 0 → mi' 75 6 = fracV a (flP a d r) 1 → Q mi' ml z) : CV l (h + 4) m_Su_chanceOfFlood [.ref 75, .ref 17, .int (nI r)] mi ml z Q := by
  have ha := hA.1
  have hB6 := ha.1
  have hR4 := ha.2.1
  have h64 : 2 ^ nB a ≤ 64 := Nat.pow_le_pow_right (show 2 > 0 by decide) hB6
  have hpos : 0 < 2 ^ nB a := Nat.pow_pos (by decide)
  refine t_Su_chanceOfFlood mi ml z _ ?_
  refine loop (P := fun s => Ev l (h + 4) m_Su_chanceOfFlood 5 ([.ref 75, .ref 17, .int (nI r), .int (nI (smr (flF a d r) s)), .int (nI s)], [], st mi ml z) (qV Q)) (2 ^ nB a) ?_ (fun s hs ih => ?_)
  · refine t_Su_chanceOfFlood_5 mi ml z _ _ _ (c_allBecks hA.2.2.1.1 hB6 ⟨fun _ => ?_, fun c => absurd ((nI_ltI (by omega) (by omega)).mpr (by omega)) c⟩)
    exact c_chance_tell ha hA.2.2.1 (sum_lt ha (flF_le ha)) (fun m F => hq m (F.weak (by simp)))
  · refine t_Su_chanceOfFlood_5 mi ml z _ _ _ (c_allBecks hA.2.2.1.1 hB6 ⟨fun c => absurd ((nI_ltI (by omega) (by omega)).mp c) (by omega), fun _ => ?_⟩)
    refine c_Sc_overflows_17 (f := dF d) (bs := nBs a) hA.2.2.1.1 hB6 hR4 (hA.2.2.2.1.isW ha hA.2.1) hA.fl (fun b _ => (hA.2.1.2.1 b).1) hr ⟨hA.2.2.1.2.2.2.2.2.2.1 r hr, (ha.2.2.2 r hr).2⟩ (by omega) ?_
    rw [bI_0, nI_1]
    simp only [smr] at ih
    refine ⟨fun c => ?_, fun c => c_Su_weightOf ha hA.2.2.1 (by omega) ?_⟩
    · rw [show flF a d r s = 0 by unfold flF; rw [if_neg (by rw [c]; decide)], Nat.add_zero] at ih
      exact ih
    · rw [show flF a d r s = wtS a s by unfold flF; rw [if_pos (by simpa using c)]] at ih
      rw [nI_add]
      exact ih
def flA (a : Ln) (d : Dt) (x v : Int32) : Int32 := if inR a x ∧ (v = 0 ∨ v = 1) then fracV a (flP a d x.toInt.toNat) v else -2
theorem c_B_flooding {l : Launch} {h : Nat} {mi : TMi} {ml : TMl} {z : Nat} {a : Ln} {d : Dt} {x v : Int32} {Q : Int32 → TMi → TMl → Nat → Prop} (hA : CA mi a d) (hq : ∀ mi', Fr SC mi mi' → Q (flA a d x v) mi' ml z) : CI l (h + 5) m_B_flooding [.ref 1, .int x, .int v] mi ml z Q := by
  have ha := hA.1
  have no : ¬ (inR a x ∧ (v = 0 ∨ v = 1)) → Q (-2) mi ml z := fun hn => by
    have := hq mi (Fr.refl _ _)
    unfold flA at this
    rw [if_neg hn] at this
    exact this
  refine t_B_flooding mi ml z _ _ (c_hasRiver hA.2.2.1.2.1 ha.2.1 ⟨fun c => ?_, fun c => ?_⟩)
  · rw [bI_0, decide_eq_false_iff_not] at c
    exact no (fun k => c k.1)
  · rw [bI_0, Bool.not_eq_false, decide_eq_true_eq] at c
    obtain ⟨ex, hr⟩ := inR_nI (a := a) c
    have hq' : (v = 0 ∨ v = 1) → ∀ mi', Fr SC mi mi' → Q (fracV a (flP a d x.toInt.toNat) v) mi' ml z := fun hv mi' F => by
      have := hq mi' F
      unfold flA at this
      rw [if_pos ⟨c, hv⟩] at this
      exact this
    generalize x.toInt.toNat = r at ex hr hq'
    rw [ex]
    refine ⟨fun q => c_Su_chanceOfFlood hA hr (fun m F e5 e6 => ⟨fun k => absurd q k, fun _ => ?_⟩), fun q => ⟨fun q2 => c_Su_chanceOfFlood hA hr (fun m F e5 e6 => ⟨fun _ => ?_, fun k => absurd k q⟩), fun q2 => no (fun k => by rcases k.2 with k | k; exact q k; exact q2 k)⟩⟩
    · rw [e5]
      have := hq' (Or.inl q) m F
      rw [q] at this
      exact this
    · rw [e6]
      have := hq' (Or.inr q2) m F
      rw [q2] at this
      exact this
theorem w01 (v : Int32) : (0 ≤ v.toInt ∧ v.toInt ≤ 1) ↔ (v = 0 ∨ v = 1) := by
  constructor
  · intro h
    by_cases q : v.toInt = 0
    · exact Or.inl (Int32.toInt_inj.mp (by rw [q]; rfl))
    · exact Or.inr (Int32.toInt_inj.mp (by rw [show v.toInt = 1 by omega]; decide))
  · rintro (h | h)
    · rw [h]; decide
    · rw [h]; decide
theorem c_R_flooding {l : Launch} {h : Nat} {mi : TMi} {ml : TMl} {z : Nat} {a : Ln} {d : Dt} {x v : Int32} {Q : Int32 → TMi → TMl → Nat → Prop} (hA : RA mi a d) (hq : ∀ mi', FQ mi mi' → Q (flA a d x v) mi' ml z) : CI l (h + 43) m_R_flooding [.ref 119, .int x, .int v] mi ml z Q := by
  have F0 : FQ mi (up mi 119 0 0) := FQ.u119 _ _ (by decide)
  have hA0 := hA.q F0
  have ha := hA.1
  have hB6 := ha.1
  have hR4 := ha.2.1
  have h64 : 2 ^ nB a ≤ 64 := Nat.pow_le_pow_right (show 2 > 0 by decide) hB6
  have hpos : 0 < 2 ^ nB a := Nat.pow_pos (by decide)
  have no : ¬ (inR a x ∧ (v = 0 ∨ v = 1)) → Q (-2) (up mi 119 0 0) ml z := fun hn => by
    have := hq _ F0
    unfold flA at this
    rw [if_neg hn] at this
    exact this
  refine t_R_flooding mi ml z _ _ (c_R_isRiver hA0.2.2.2.1.2.1 ha.2.1 ?_)
  rw [t64]
  refine ⟨fun c => ?_, fun c => c_R_within ?_⟩
  · rw [bI_0, decide_eq_false_iff_not] at c
    exact no (fun k => c k.1)
  · rw [bI_0, Bool.not_eq_false, decide_eq_true_eq] at c
    rw [t64, show (0 : Int64).toInt = 0 by decide, show (1 : Int64).toInt = 1 by decide]
    refine ⟨fun c2 => ?_, fun c2 => ?_⟩
    · rw [bI_0, Bool.not_eq_false, decide_eq_true_eq, w01] at c2
      obtain ⟨ex, hr⟩ := inR_nI (a := a) c
      have hq' : Q (fracV a (flP a d x.toInt.toNat) v) (up mi 119 0 0) ml z := by
        have := hq _ F0
        unfold flA at this
        rw [if_pos ⟨c, c2⟩] at this
        exact this
      generalize x.toInt.toNat = r at ex hr hq'
      rw [ex]
      generalize up mi 119 0 0 = m at hA0 hq' ⊢
      obtain ⟨_, hd, _, hl, hc⟩ := hA0
      have erev : flP a d r = smr (fun t => flF a d r (2 ^ nB a - 1 - t)) (2 ^ nB a) := smr_rev
      have hlt := sum_lt ha (F := flF a d r) (flF_le ha)
      refine loop (P := fun t => Ev l (h + 43) m_R_flooding 32 ([.ref 119, .int (nI r), .int v, .int (nI (smr (fun t => flF a d r (2 ^ nB a - 1 - t)) t)), .int (nI t)], [], st m ml z) (qI Q)) (2 ^ nB a) ?_ (fun t ht ih => ?_)
      · refine t_R_flooding_32 m ml z _ _ _ _ ⟨fun _ => ?_, fun c => absurd ?_ c⟩
        · rw [← erev]
          exact c_R_part ha hl hlt hq'
        · rw [hl.1, shl7 _ (by omega)]
          exact (nI_leI (by omega) (by omega)).mpr (Nat.le_refl _)
      · refine t_R_flooding_32 m ml z _ _ _ _ ⟨fun c => ?_, fun _ => c_R_becksIn hl.1 hB6 ?_⟩
        · rw [hl.1, shl7 _ (by omega), nI_leI (by omega) (by omega)] at c
          omega
        · have hiw : isW (fun k => m 120 (29 + k)) (nB a) (nR a) (dW d) := hc.isW ha hd
          rw [show enc (fun b => m 120 (29 + b) == nI r) (nB a) = enc (fun b => dW d b == some r) (nB a) from isW_enc hiw hR4 (show r < 4 by omega)]
          have he64 := enc_64 (fun b => dW d b == some r) hB6
          rw [andn6 _ he64 t (by omega)]
          refine c_R_flowOf hl.1 hB6 (by omega) (f := dF d) (fun b hb => cr_fl hc (by omega)) ⟨in_addL (a := 25) (by omega) (by decide), ?_⟩
          have hbs := (ha.2.2.2 r hr).2
          have h54 := smn_le (fun b => tb (enc (fun b => dW d b == some r) (nB a) - (enc (fun b => dW d b == some r) (nB a) &&& t)) b) (dF d) 9 (nB a) (fun b _ => (hd.2.1 b).1)
          rw [addL_cl 25 r (by omega), hl.2.2.2.2.2.2.1 r hr, nI_1]
          show (nI (smn (fun b => tb (enc (fun b => dW d b == some r) (nB a) - (enc (fun b => dW d b == some r) (nB a) &&& t)) b) (dF d) (nB a)) ≤ nI (nBs a r) → _) ∧ (¬ nI (smn (fun b => tb (enc (fun b => dW d b == some r) (nB a) - (enc (fun b => dW d b == some r) (nB a) &&& t)) b) (dF d) (nB a)) ≤ nI (nBs a r) → _)
          rw [nI_leI (by omega) (by omega)]
          have esm : smn (fun b => tb (enc (fun b => dW d b == some r) (nB a) - (enc (fun b => dW d b == some r) (nB a) &&& t)) b) (dF d) (nB a) = smn (fun b => (dW d b == some r) && tb (2 ^ nB a - 1 - t) b) (dF d) (nB a) := smn_congr (fun b hb => by
            rw [andn6_tb _ he64 t (by omega) b (by omega), enc_tb _ _ _ hb, tb_cp _ (by omega) t ht b hb]) (fun _ _ => rfl)
          rw [esm]
          have eF : flF a d r (2 ^ nB a - 1 - t) = if nBs a r < smn (fun b => (dW d b == some r) && tb (2 ^ nB a - 1 - t) b) (dF d) (nB a) then wtS a (2 ^ nB a - 1 - t) else 0 := by
            unfold flF flR
            simp only [decide_eq_true_eq]
          simp only [smr] at ih
          refine ⟨fun q => ?_, fun q => c_R_likelyDry ha hl ht ?_⟩
          · rw [eF, if_neg (by omega), Nat.add_zero] at ih
            rw [Int32.add_zero]
            exact ih
          · rw [eF, if_pos (by omega)] at ih
            rw [nI_add]
            exact ih
    · rw [bI_0, decide_eq_false_iff_not, w01] at c2
      exact no (fun k => c2 k.2)
/-! staying -/
def stF (a : Ln) (es : Nat → Bool) (b s : Nat) : Nat := if tb s b = true ∧ es s = true then wtS a s else 0
def stP (a : Ln) (be : Nat → Option Nat) (es : Nat → Bool) (b : Nat) : Nat := if be b = none then 0 else smr (stF a es b) (2 ^ nB a)
def EsOk (a : Ln) (d : Dt) (be : Nat → Option Nat) (b : Nat) (es : Nat → Bool) : Prop := ∀ s, es s = true ↔ ∃ wo, Best (nB a) (nR a) (dryL (fun b => tb s b) (lkD a d)) (tkD a d) (dR d) wo ∧ wo b = be b
theorem ex_es (a : Ln) (d : Dt) (be : Nat → Option Nat) (b : Nat) : ∃ es, EsOk a d be b es := ⟨fun s => @decide (∃ wo, Best (nB a) (nR a) (dryL (fun b => tb s b) (lkD a d)) (tkD a d) (dR d) wo ∧ wo b = be b) (Classical.propDecidable _), fun s => by simp⟩
theorem EsOk.iff {a : Ln} {d : Dt} {be wo : Nat → Option Nat} {b s : Nat} {es : Nat → Bool} (h : EsOk a d be b es) (ha : okLn a) (hb : b < nB a) (hwo : Best (nB a) (nR a) (dryL (fun b => tb s b) (lkD a d)) (tkD a d) (dR d) wo) : es s = true ↔ wo b = be b := by
  rw [h s]
  constructor
  · rintro ⟨wo', h1, h2⟩
    rw [best_uniq ha.2.1 hwo.1 h1.1 hwo.2 h1.2 b hb]
    exact h2
  · exact fun e => ⟨wo, hwo, e⟩
theorem stF_le {a : Ln} {es : Nat → Bool} {b : Nat} (ha : okLn a) (s : Nat) : stF a es b s ≤ 1000000 := by
  unfold stF
  by_cases q : tb s b = true ∧ es s = true
  · rw [if_pos q]; exact wtS_le ha s
  · rw [if_neg q]; exact Nat.zero_le _
theorem c_Su_chanceOfStaying {l : Launch} {h : Nat} {mi : TMi} {ml : TMl} {z : Nat} {a : Ln} {d : Dt} {b : Nat} {Q : TMi → TMl → Nat → Prop} (hA : CA mi a d) (hb : b < nB a) (hq : ∀ mi' be es, Fr SC mi mi' → BestA a d be → EsOk a d be b es → mi' 75 5 = fracV a (stP a be es b) 0 → mi' 75 6 = fracV a (stP a be es b) 1 → Q mi' ml z) : CV l (h + 5) m_Su_chanceOfStaying [.ref 75, .ref 17, .int (nI b)] mi ml z Q := by
  have ha := hA.1
  have hB6 := ha.1
  have hR4 := ha.2.1
  have h64 : 2 ^ nB a ≤ 64 := Nat.pow_le_pow_right (show 2 > 0 by decide) hB6
  have hpos : 0 < 2 ^ nB a := Nat.pow_pos (by decide)
  refine t_Su_chanceOfStaying mi ml z _ (c_allBecks hA.2.2.1.1 hB6 (c_best_17 hA (fun m1 be F1 hw1 hbe => ⟨in_nI (by omega) (by decide), ?_⟩)))
  rw [cl_nI (by omega), (hw1 b hb).1]
  obtain ⟨es, hes⟩ := ex_es a d be b
  have hq := fun m => hq m be es
  have F1' : Fr SC mi m1 := F1.weak (by simp)
  cases e : be b with
  | none =>
    have hA1 : CA m1 a d := hA.of F1' (by decide)
    have ep : stP a be es b = 0 := by unfold stP; rw [if_pos e]
    rw [ep] at hq
    refine t_Su_chanceOfStaying_31 m1 ml z _ _ _ _ (c_allBecks hA1.2.2.1.1 hB6 ⟨fun c => absurd ((nI_ltI (a := 2 ^ nB a - 1) (b := 0) (by omega) (by decide)).mp c) (by omega), fun _ => ⟨fun _ => ?_, fun q => absurd rfl q⟩⟩)
    exact c_chance_tell (p := 0) ha hA1.2.2.1 (by decide) (fun m F => hq m (F1'.step (F.weak (by simp))) hbe hes)
  | some r0 =>
    have hr0 := (hw1 b hb).2 r0 e
    have ep : stP a be es b = smr (stF a es b) (2 ^ nB a) := by unfold stP; rw [if_neg (by rw [e]; simp)]
    rw [ep] at hq
    refine loop (P := fun s => ∀ m, Fr SC mi m → Ev l (h + 5) m_Su_chanceOfStaying 31 ([.ref 75, .ref 17, .int (nI b), .int (oI (some r0)), .int (nI (smr (stF a es b) s)), .int (nI s), .retAddr 0], [], st m ml z) (qV Q)) (2 ^ nB a) (fun m F => ?_) (fun s hs ih m F => ?_) m1 F1'
    · have hAm : CA m a d := hA.of F (by decide)
      refine t_Su_chanceOfStaying_31 m ml z _ _ _ _ (c_allBecks hAm.2.2.1.1 hB6 ⟨fun _ => ?_, fun c => absurd ((nI_ltI (by omega) (by omega)).mpr (by omega)) c⟩)
      exact c_chance_tell ha hAm.2.2.1 (sum_lt ha (stF_le ha)) (fun m' F' => hq m' (F.step (F'.weak (by simp))) hbe hes)
    · have hAm : CA m a d := hA.of F (by decide)
      refine t_Su_chanceOfStaying_31 m ml z _ _ _ _ (c_allBecks hAm.2.2.1.1 hB6 ⟨fun c => absurd ((nI_ltI (by omega) (by omega)).mp c) (by omega), fun _ => ⟨fun q => absurd q (neg1_ne (by omega)), fun _ => ?_⟩⟩)
      rw [sr_tb (by omega) (by omega), nI_1]
      have skip : stF a es b s = 0 → ∀ m', Fr SC mi m' → Ev l (h + 5) m_Su_chanceOfStaying 31 ([.ref 75, .ref 17, .int (nI b), .int (oI (some r0)), .int (nI (smr (stF a es b) s)), .int (nI (s + 1)), .retAddr 0], [], st m' ml z) (qV Q) := fun e0 m' F' => by
        have ih := ih m' F'
        simp only [smr] at ih
        rw [e0, Nat.add_zero] at ih
        exact ih
      refine ⟨fun c => skip (by unfold stF; rw [if_neg (fun k => by rw [c] at k; cases k.1)]) m F, fun c => c_Su_weightOf ha hAm.2.2.1 (by omega) ?_⟩
      have c' : tb s b = true := by simpa using c
      have hwt := wtS_le ha s
      show (nI (wtS a s) ≤ nI 0 → _) ∧ (¬ nI (wtS a s) ≤ nI 0 → _)
      rw [nI_leI (by omega) (by decide)]
      refine ⟨fun q => skip ?_ m F, fun q => c_Ma_bestForBecks_17 hAm.2.2.1.1 hB6 hR4 hAm.2.2.2.2 hAm.rm (by omega) (fun m2 wo F2 hw2 hwo => ⟨in_nI (by omega) (by decide), ?_⟩)⟩
      · unfold stF
        by_cases k : tb s b = true ∧ es s = true
        · rw [if_pos k]; omega
        · rw [if_neg k]
      · have hiff := hes.iff ha hb hwo
        have F2' : Fr SC mi m2 := F.step (F2.weak (by simp))
        rw [cl_nI (by omega), (hw2 b hb).1]
        refine ⟨fun k => ?_, fun k => ?_⟩
        · rw [Int32.add_zero]
          refine skip ?_ m2 F2'
          unfold stF
          rw [if_neg (fun k2 => k (by rw [hiff.mp k2.2, e]))]
        · have ewo : wo b = some r0 := oI_inj (fun n k => by have := (hw2 b hb).2 n k; omega) (fun n k => by cases k; omega) k
          have ih := ih m2 F2'
          simp only [smr] at ih
          rw [show stF a es b s = wtS a s by unfold stF; rw [if_pos ⟨c', hiff.mpr (by rw [ewo, e])⟩]] at ih
          rw [nI_add]
          exact ih
def stA (a : Ln) (be : Nat → Option Nat) (es : Nat → Bool) (x v : Int32) : Int32 := if inB a x ∧ (v = 0 ∨ v = 1) then fracV a (stP a be es x.toInt.toNat) v else -2
theorem c_B_staying {l : Launch} {h : Nat} {mi : TMi} {ml : TMl} {z : Nat} {a : Ln} {d : Dt} {x v : Int32} {Q : Int32 → TMi → TMl → Nat → Prop} (hA : CA mi a d) (hq : ∀ mi' be es, Fr SC mi mi' → BestA a d be → EsOk a d be x.toInt.toNat es → Q (stA a be es x v) mi' ml z) : CI l (h + 6) m_B_staying [.ref 1, .int x, .int v] mi ml z Q := by
  have ha := hA.1
  have no : ¬ (inB a x ∧ (v = 0 ∨ v = 1)) → Q (-2) mi ml z := fun hn => by
    obtain ⟨be, hbe⟩ := ex_best (lkD a d) (tkD a d) (dR d) ha.1 ha.2.1
    obtain ⟨es, hes⟩ := ex_es a d be x.toInt.toNat
    have := hq mi be es (Fr.refl _ _) hbe hes
    unfold stA at this
    rw [if_neg hn] at this
    exact this
  refine t_B_staying mi ml z _ _ (c_hasBeck hA.2.2.1.1 ha.1 ⟨fun c => ?_, fun c => ?_⟩)
  · rw [bI_0, decide_eq_false_iff_not] at c
    exact no (fun k => c k.1)
  · rw [bI_0, Bool.not_eq_false, decide_eq_true_eq] at c
    obtain ⟨ex, hb⟩ := inB_nI (a := a) c
    have hq' : (v = 0 ∨ v = 1) → ∀ mi' be es, Fr SC mi mi' → BestA a d be → EsOk a d be x.toInt.toNat es → Q (fracV a (stP a be es x.toInt.toNat) v) mi' ml z := fun hv mi' be es F hbe hes => by
      have := hq mi' be es F hbe hes
      unfold stA at this
      rw [if_pos ⟨c, hv⟩] at this
      exact this
    generalize x.toInt.toNat = b at ex hb hq'
    rw [ex]
    refine ⟨fun q => c_Su_chanceOfStaying hA hb (fun m be es F hbe hes e5 e6 => ⟨fun k => absurd q k, fun _ => ?_⟩), fun q => ⟨fun q2 => c_Su_chanceOfStaying hA hb (fun m be es F hbe hes e5 e6 => ⟨fun _ => ?_, fun k => absurd k q⟩), fun q2 => no (fun k => by rcases k.2 with k | k; exact q k; exact q2 k)⟩⟩
    · rw [e5]
      have := hq' (Or.inl q) m be es F hbe hes
      rw [q] at this
      exact this
    · rw [e6]
      have := hq' (Or.inr q2) m be es F hbe hes
      rw [q2] at this
      exact this
theorem c_R_staying {l : Launch} {h : Nat} {mi : TMi} {ml : TMl} {z : Nat} {a : Ln} {d : Dt} {x v : Int32} {be : Nat → Option Nat} {es : Nat → Bool} {Q : Int32 → TMi → TMl → Nat → Prop} (hA : RA mi a d) (hbe : BestA a d be) (hes : EsOk a d be x.toInt.toNat es) (hq : ∀ mi', FQ mi mi' → Q (stA a be es x v) mi' ml z) : CI l (h + 43) m_R_staying [.ref 119, .int x, .int v] mi ml z Q := by
  have F0 : FQ mi (up mi 119 0 0) := FQ.u119 _ _ (by decide)
  have hA0 := hA.q F0
  have ha := hA.1
  have hB6 := ha.1
  have hR4 := ha.2.1
  have h64 : 2 ^ nB a ≤ 64 := Nat.pow_le_pow_right (show 2 > 0 by decide) hB6
  have hpos : 0 < 2 ^ nB a := Nat.pow_pos (by decide)
  have no : ¬ (inB a x ∧ (v = 0 ∨ v = 1)) → Q (-2) (up mi 119 0 0) ml z := fun hn => by
    have := hq _ F0
    unfold stA at this
    rw [if_neg hn] at this
    exact this
  refine t_R_staying mi ml z _ _ (c_R_isBeck hA0.2.2.2.1.1 ha.1 ?_)
  rw [t64]
  refine ⟨fun c => ?_, fun c => c_R_within ?_⟩
  · rw [bI_0, decide_eq_false_iff_not] at c
    exact no (fun k => c k.1)
  · rw [bI_0, Bool.not_eq_false, decide_eq_true_eq] at c
    rw [t64, show (0 : Int64).toInt = 0 by decide, show (1 : Int64).toInt = 1 by decide]
    refine ⟨fun c2 => ?_, fun c2 => ?_⟩
    · rw [bI_0, Bool.not_eq_false, decide_eq_true_eq, w01] at c2
      obtain ⟨ex, hb⟩ := inB_nI (a := a) c
      have hq' : ∀ mi', FQ (up mi 119 0 0) mi' → Q (fracV a (stP a be es x.toInt.toNat) v) mi' ml z := fun mi' F => by
        have := hq mi' (F0.trans F)
        unfold stA at this
        rw [if_pos ⟨c, c2⟩] at this
        exact this
      generalize x.toInt.toNat = b at ex hb hq' hes
      rw [ex]
      generalize up mi 119 0 0 = m at hA0 hq' ⊢
      refine c_laysLikes ha hA0.2.1.v hA0.2.2.2.1 hA0.2.2.2.2 (fun m1 F1 hl1 => ?_)
      have F1q : FQ m m1 := FQ.of F1 (fun n hn => by simp; omega)
      have hA1 := hA0.q F1q
      have hH1 := hA1.rh hl1
      refine c_R_laysByBecks (d := 0) hH1 (by decide) (fun m2 wo2 F2 hw2 hbe2 => ⟨in_nI (by omega) (by decide), ?_⟩)
      have hbe2' : BestA a d wo2 := (hbe2.like dry_none).like hl1.like
      have F2q : FQ m1 m2 := FQ.of F2 (fun n hn => by simp; omega)
      rw [cl_nI (by omega), (hw2 b hb).1, best_uniq hR4 hbe2'.1 hbe.1 hbe2'.2 hbe.2 b hb]
      have hA2 := hA1.q F2q
      have hl2 : LT m2 a d := hl1.fr (F2 126 (by decide)) (F2 127 (by decide))
      cases e : be b with
      | none =>
        have ep : stP a be es b = 0 := by unfold stP; rw [if_pos e]
        rw [ep] at hq'
        have hp := c_R_part (l := l) (h := h) (p := 0) (what := v) (Q := Q) ha hA2.2.2.2.1 (by decide) (hq' m2 (F1q.trans F2q))
        refine t_R_staying_49 m2 ml z _ _ _ _ _ ⟨fun _ => hp, fun _ => ⟨fun _ => hp, fun q => absurd rfl q⟩⟩
      | some r0 =>
        have hr0 := (hbe.1.1 b r0 hb e).1
        have ep : stP a be es b = smr (fun t => stF a es b (2 ^ nB a - 1 - t)) (2 ^ nB a) := by unfold stP; rw [if_neg (by rw [e]; simp)]; exact smr_rev
        have hlt : stP a be es b < 2 ^ 31 := by
          unfold stP
          rw [if_neg (by rw [e]; simp)]
          exact sum_lt ha (stF_le ha)
        refine loop (P := fun t => ∀ m', FQ m m' → LT m' a d → Ev l (h + 43) m_R_staying 49 ([.ref 119, .int (nI b), .int v, .int (oI (some r0)), .int (nI (smr (fun t => stF a es b (2 ^ nB a - 1 - t)) t)), .int (nI t)], [], st m' ml z) (qI Q)) (2 ^ nB a) (fun m' F' hl' => ?_) (fun t ht ih m' F' hl' => ?_) m2 (F1q.trans F2q) hl2
        · have hA' := hA0.q F'
          refine t_R_staying_49 m' ml z _ _ _ _ _ ⟨fun _ => ?_, fun c => absurd ?_ c⟩
          · rw [← ep]
            exact c_R_part ha hA'.2.2.2.1 hlt (hq' m' F')
          · rw [hA'.2.2.2.1.1, shl7 _ (by omega)]
            exact (nI_leI (by omega) (by omega)).mpr (Nat.le_refl _)
        · have hA' := hA0.q F'
          have hl := hA'.2.2.2.1
          have hcp := tb_cp (nB a) (by omega) t ht b hb
          refine t_R_staying_49 m' ml z _ _ _ _ _ ⟨fun c => ?_, fun _ => ⟨fun q => absurd q (neg1_ne (by omega)), fun _ => c_R_isIn (by omega) (by omega) ?_⟩⟩
          · rw [hl.1, shl7 _ (by omega), nI_leI (by omega) (by omega)] at c
            omega
          · rw [bI_0, nI_1]
            refine ⟨fun c => c_R_laysByBecks (hA'.rh hl') (by omega) (fun m3 wo3 F3 hw3 hwo3 => ⟨in_nI (by omega) (by decide), ?_⟩), fun c => ?_⟩
            · have F3q : FQ m' m3 := FQ.of F3 (fun n hn => by simp; omega)
              have hl3 : LT m3 a d := hl'.fr (F3 126 (by decide)) (F3 127 (by decide))
              have hA3 := hA'.q F3q
              have hlk : Like (nB a) (nR a) (dryL (fun b => !tb t b) (Lk m' 126)) (Lk m' 127) (dryL (fun b => tb (2 ^ nB a - 1 - t) b) (lkD a d)) (tkD a d) := Like.of (fun x y hx hy => ⟨by simp only [dryL, (hl' x y hx hy).1, tb_cp (nB a) (by omega) t ht x hx], (hl' x y hx hy).2⟩)
              have hwo3' := hwo3.like hlk
              have hiff := hes.iff ha hb hwo3'
              have ih := ih m3 (F'.trans F3q) hl3
              simp only [smr] at ih
              rw [cl_nI (by omega), (hw3 b hb).1]
              refine ⟨fun k => ?_, fun k => c_R_likelyDry ha hA3.2.2.2.1 ht ?_⟩
              · rw [show stF a es b (2 ^ nB a - 1 - t) = 0 by unfold stF; rw [if_neg (fun k2 => k (by rw [hiff.mp k2.2, e]))], Nat.add_zero] at ih
                rw [Int32.add_zero]
                exact ih
              · have ewo : wo3 b = some r0 := oI_inj (fun n k => by have := (hw3 b hb).2 n k; omega) (fun n k => by cases k; omega) k
                rw [show stF a es b (2 ^ nB a - 1 - t) = wtS a (2 ^ nB a - 1 - t) by unfold stF; rw [if_pos ⟨by rw [hcp, c]; rfl, hiff.mpr (by rw [ewo, e])⟩]] at ih
                rw [nI_add]
                exact ih
            · have ih := ih m' F' hl'
              simp only [smr] at ih
              rw [show stF a es b (2 ^ nB a - 1 - t) = 0 by unfold stF; rw [if_neg (fun k => by rw [hcp] at k; simp at c; rw [c] at k; cases k.1)], Nat.add_zero] at ih
              exact ih
    · rw [bI_0, decide_eq_false_iff_not, w01] at c2
      exact no (fun k => c2 k.2)
