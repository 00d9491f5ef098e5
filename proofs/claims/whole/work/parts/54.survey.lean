/-! ===== the class's survey: bounds, numbers, weighing ===== -/
theorem c_fill {l : Launch} {h : Nat} {mi : TMi} {ml : TMl} {z : Nat} {w n : Nat} {x : Int32} {Q : TMi → TMl → Nat → Prop} (hw : SH[w]? = some (.inr (0, n))) (hn : n < 1000) (hq : ∀ mi', Fr [w] mi mi' → (∀ k, k < n → mi' w k = x) → Q mi' ml z) : CV l (h + 1) m_JA_fill [.ref w, .int x] mi ml z Q := by
  refine t_JA_fill mi ml z w n x hw ?_
  refine loop (P := fun i => ∀ m, Fr [w] mi m → (∀ k, k < i → m w k = x) → Ev l (h + 1) m_JA_fill 5 ([.ref w, .int x, .int (nI i), .int (nI n)], [], st m ml z) (qV Q)) n (fun m F hk => ?_) (fun i hi ih m F hk => ?_) mi (Fr.refl _ _) (fun k hk => absurd hk (Nat.not_lt_zero _))
  · exact t_JA_fill_5 m ml z w n _ _ _ hw ⟨fun _ => hq m F hk, fun c => absurd (le_at (N := n) rfl (by omega)) c⟩
  · refine t_JA_fill_5 m ml z w n _ _ _ hw ⟨fun c => absurd c (ge_no (N := n) rfl (by omega) hi), fun _ => ⟨in_nI hi (by omega), ?_⟩⟩
    rw [cl_nI (by omega), nI_1]
    refine ih _ (F.step (Fr_up _ _ _ _)) (fun k hk' => ?_)
    by_cases q : k = i
    · subst q; rw [up_at]
    · rw [up_nk _ _ _ q]; exact hk k (by omega)
/-- a land and its state, as the class has them -/
def CA (mi : TMi) (a : Ln) (d : Dt) : Prop := okLn a ∧ okD a d ∧ LnC mi 18 a ∧ Cs (mi 27) d ∧ SL_17 mi a d
theorem CA.fr {mi mi' : TMi} {a : Ln} {d : Dt} (h : CA mi a d) (e : ∀ n, 18 ≤ n → n < 33 → mi' n = mi n) : CA mi' a d :=
  ⟨h.1, h.2.1, h.2.2.1.fr (fun k hk => e _ (by omega) (by omega)), by rw [e 27 (by omega) (by omega)]; exact h.2.2.2.1, h.2.2.2.2.fr (e _ (by omega) (by omega)) (e _ (by omega) (by omega)) (e _ (by omega) (by omega)) (e _ (by omega) (by omega)) (e _ (by omega) (by omega))⟩
theorem CA.of {mi mi' : TMi} {a : Ln} {d : Dt} {ns : List Nat} (h : CA mi a d) (F : Fr ns mi mi') (e : ∀ n, n ∈ ns → n < 18 ∨ 33 ≤ n) : CA mi' a d := h.fr (fun n h1 h2 => F n (fun q => by have := e n q; omega))
theorem CA.rm {mi : TMi} {a : Ln} {d : Dt} (h : CA mi a d) : ∀ r, r < nR a → mi 27 (12 + r) = nI (dR d r) ∧ dR d r < 100 := fun r hr => by
  have := h.1.2.1
  have := (h.2.1.2.2.1 r).1
  exact ⟨h.2.2.2.1.2.2.1 r (by omega), by omega⟩
theorem CA.fl {mi : TMi} {a : Ln} {d : Dt} (h : CA mi a d) : ∀ b, b < nB a → mi 27 (6 + b) = nI (dF d b) := fun b hb => by
  have := h.1.1
  exact h.2.2.2.1.2.1 b (by omega)
theorem Best.like {B R : Nat} {L T L' T' : Nat → Nat → Int} {rm : Nat → Nat} {wo : Nat → Option Nat} (h : Best B R L T rm wo) (k : Like B R L T L' T') : Best B R L' T' rm wo := by
  refine ⟨h.1.like k, fun mu hmu b r hb e => ?_⟩
  have hmu' := hmu.like k.symm
  obtain ⟨r', q1, q2⟩ := h.2 mu hmu' b r hb e
  refine ⟨r', q1, ?_⟩
  by_cases c : pbO L' b r' < pbO L' b r
  · have := (k.2.1 b r' r hb (h.1.1 b r' hb q1).1 (hmu.1 b r hb e).1 (h.1.1 b r' hb q1).2 (hmu'.1 b r hb e).2).mpr c
    omega
  · omega
theorem Worst.like {B R : Nat} {L T L' T' : Nat → Nat → Int} {rm : Nat → Nat} {wo : Nat → Option Nat} (h : Worst B R L T rm wo) (k : Like B R L T L' T') : Worst B R L' T' rm wo := by
  refine ⟨h.1.like k, fun mu hmu b r hb e => ?_⟩
  have hmu' := hmu.like k.symm
  obtain ⟨r', q1, q2⟩ := h.2 mu hmu' b r hb e
  refine ⟨r', q1, ?_⟩
  by_cases c : pbO L' b r' < pbO L' b r
  · have := (k.2.1 b r' r hb (hmu.1 b r' hb q1).1 (h.1.1 b r hb e).1 (hmu'.1 b r' hb q1).2 (h.1.1 b r hb e).2).mpr c
    omega
  · omega
theorem tb_all : ∀ B, B < 7 → 2 ^ B - 1 < 64 ∧ ∀ b, b < B → tb (2 ^ B - 1) b = true := by decide +kernel
theorem dry_all {B R : Nat} {L T : Nat → Nat → Int} (hB : B ≤ 6) : Like B R (dryL (fun b => tb (2 ^ B - 1) b) L) T L T := Like.of (fun b r hb hr => ⟨by simp [dryL, (tb_all B (by omega)).2 b hb], rfl⟩)
theorem c_best_17 {l : Launch} {h : Nat} {mi : TMi} {ml : TMl} {z : Nat} {a : Ln} {d : Dt} {Q : TMi → TMl → Nat → Prop} (hA : CA mi a d) (hq : ∀ mi' be, Fr [56, 57, 58, 59] mi mi' → isW (mi' 56) (nB a) (nR a) be → BestA a d be → Q mi' ml z) : CV l (h + 4) m_Ma_bestForBecks [.ref 55, .ref 17, .int (nI (2 ^ nB a - 1))] mi ml z Q := by
  have hB6 := hA.1.1
  exact c_Ma_bestForBecks_17 hA.2.2.1.1 hB6 hA.1.2.1 hA.2.2.2.2 hA.rm (tb_all _ (by omega)).1 (fun m wo F hw hb => hq m wo F hw (hb.like (dry_all hB6)))
theorem c_worst_17 {l : Launch} {h : Nat} {mi : TMi} {ml : TMl} {z : Nat} {a : Ln} {d : Dt} {Q : TMi → TMl → Nat → Prop} (hA : CA mi a d) (hq : ∀ mi' wo, Fr [56, 57, 58, 59] mi mi' → isW (mi' 56) (nB a) (nR a) wo → WorstA a d wo → Q mi' ml z) : CV l (h + 5) m_Ma_bestForRivers [.ref 55, .ref 17] mi ml z Q :=
  c_Ma_bestForRivers_17 hA.2.2.1.1 hA.1.1 hA.2.2.1.2.1 hA.1.2.1 hA.2.2.2.2 hA.rm hq
theorem isW_cp {mi : TMi} {s t B R : Nat} {wo : Nat → Option Nat} (h : isW (mi s) B R wo) (hB : B ≤ 6) : isW (cpF mi s t 0 0 6 t) B R wo := fun b hb => by
  rw [cp_at]
  refine ⟨?_, (h b hb).2⟩
  show (if b < 6 then mi s b else mi t b) = _
  rw [if_pos (by omega)]
  exact (h b hb).1
theorem c_Sv_bound {l : Launch} {h : Nat} {mi : TMi} {ml : TMl} {z : Nat} {a : Ln} {d : Dt} {Q : TMi → TMl → Nat → Prop} (hA : CA mi a d) (hq : ∀ mi' be wo, Fr [56, 57, 58, 59, 61, 62] mi mi' → isW (mi' 61) (nB a) (nR a) be → isW (mi' 62) (nB a) (nR a) wo → BestA a d be → WorstA a d wo → Q mi' ml z) : CV l (h + 6) m_Sv_bound [.ref 60, .ref 17] mi ml z Q := by
  have hB6 := hA.1.1
  refine t_Sv_bound mi ml z (c_allBecks hA.2.2.1.1 hB6 (c_best_17 hA (fun m1 be F1 hw1 hbe => ?_)))
  have F2 : Fr [56, 57, 58, 59, 61, 62] mi (cpF m1 56 61 0 0 6) := (F1.weak (by simp)).step ((Fr_cp _ _ _ _ _ _).weak (by simp))
  have hw2 : isW (cpF m1 56 61 0 0 6 61) (nB a) (nR a) be := isW_cp hw1 hB6
  generalize cpF m1 56 61 0 0 6 = m2 at F2 hw2
  refine c_worst_17 (hA.of F2 (by simp)) (fun m3 wo F3 hw3 hwo => ?_)
  refine hq _ be wo ((F2.step (F3.weak (by simp))).step ((Fr_cp _ _ _ _ _ _).weak (by simp))) ?_ (isW_cp hw3 hB6) hbe hwo
  rw [cp_ne _ _ _ _ _ _ (by decide), F3 61 (by decide)]
  exact hw2
def opn (a : Ln) (d : Dt) (be wo : Nat → Option Nat) (b r : Nat) : Bool := match be b, wo b with
  | some r1, some r2 => wdO (lkD a d) (tkD a d) b r && (!decide (pbO (lkD a d) b r1 < pbO (lkD a d) b r) && !decide (pbO (lkD a d) b r < pbO (lkD a d) b r2))
  | _, _ => false
theorem c_Sv_between {l : Launch} {h : Nat} {mi : TMi} {ml : TMl} {a : Ln} {d : Dt} {b : Nat} {be wo : Nat → Option Nat} {Q : Int32 → TMi → TMl → Nat → Prop} (hA : CA mi a d) (hw1 : isW (mi 61) (nB a) (nR a) be) (hw2 : isW (mi 62) (nB a) (nR a) wo) (hb : b < nB a) (hq : Q (nI (enc (opn a d be wo b) (nR a))) mi ml 17) : CI l (h + 3) m_Sv_between [.ref 60, .int (nI b)] mi ml 17 Q := by
  have hB6 := hA.1.1
  have hR4 := hA.1.2.1
  have hin : vp_in (nI b) 6 := in_nI (by omega) (by decide)
  refine t_Sv_between mi ml _ ⟨hin, ?_⟩
  rw [cl_nI (by omega), (hw1 b hb).1, (hw2 b hb).1]
  cases e1 : be b with
  | none =>
    have e : enc (opn a d be wo b) (nR a) = 0 := by
      have : opn a d be wo b = fun _ => false := by funext r; simp [opn, e1]
      rw [this, enc_none]
    rw [e] at hq
    exact ⟨fun _ => hq, fun q => absurd rfl q⟩
  | some r1 =>
    have hr1 := (hw1 b hb).2 r1 e1
    refine ⟨fun q => absurd q (neg1_ne (by omega)), fun _ => ⟨hin, ?_⟩⟩
    cases e2 : wo b with
    | none =>
      have e : enc (opn a d be wo b) (nR a) = 0 := by
        have : opn a d be wo b = fun _ => false := by funext r; simp [opn, e1, e2]
        rw [this, enc_none]
      rw [e] at hq
      exact ⟨fun q => absurd rfl q, fun _ => hq⟩
    | some r2 =>
      have hr2 := (hw2 b hb).2 r2 e2
      refine ⟨fun _ => ?_, fun q => absurd q (neg1_ne (by omega))⟩
      have eo : ∀ r, opn a d be wo b r = (wdO (lkD a d) (tkD a d) b r && (!decide (pbO (lkD a d) b r1 < pbO (lkD a d) b r) && !decide (pbO (lkD a d) b r < pbO (lkD a d) b r2))) := fun r => by simp only [opn, e1, e2]
      refine loop (P := fun i => Ev l (h + 3) m_Sv_between 26 ([.ref 60, .int (nI b), .int (nI (enc (opn a d be wo b) i)), .int (nI i), .retAddr 0], [], st mi ml 17) (qI Q)) (nR a) ?_ (fun i hi ih => ?_)
      · exact t_Sv_between_26 mi ml _ _ _ ⟨fun _ => hq, fun c => absurd (le_at hA.2.2.1.2.1 (by omega)) c⟩
      · have hi6 : i < 6 := by omega
        have skip : opn a d be wo b i = false → Ev l (h + 3) m_Sv_between 26 ([.ref 60, .int (nI b), .int (nI (enc (opn a d be wo b) i)), .int (nI i + 1), .retAddr 0], [], st mi ml 17) (qI Q) := fun e => by
          rw [nI_1, enc_skip e]; exact ih
        refine t_Sv_between_26 mi ml _ _ _ ⟨fun c => absurd c (ge_no hA.2.2.1.2.1 (by omega) hi), fun _ => ⟨hin, ?_⟩⟩
        rw [cl_nI (show b < 2 ^ 31 by omega), (hw1 b hb).1, e1]
        refine c_Sc_likesBetter_17 hB6 hR4 hA.2.2.2.2 hb hi hr1 ⟨rfl, ?_⟩
        rw [bI_0]
        refine ⟨fun q => c_Sc_bothWould_17 hB6 hR4 hA.2.2.2.2 hb hi ⟨rfl, ?_⟩, fun q => ⟨hin, ?_⟩⟩
        · have e : opn a d be wo b i = false := by rw [eo]; simp at q; simp [q]
          exact ⟨fun _ => skip e, fun _ => skip e⟩
        · rw [(hw2 b hb).1, e2]
          refine c_Sc_likesBetter_17 hB6 hR4 hA.2.2.2.2 hb hr2 hi ⟨rfl, ?_⟩
          rw [bI_0]
          refine ⟨fun q2 => c_Sc_bothWould_17 hB6 hR4 hA.2.2.2.2 hb hi ⟨rfl, ?_⟩, fun q2 => c_Sc_bothWould_17 hB6 hR4 hA.2.2.2.2 hb hi ⟨rfl, ?_⟩⟩
          · have e : opn a d be wo b i = false := by rw [eo]; simp at q2; simp [q2]
            exact ⟨fun _ => skip e, fun _ => skip e⟩
          · rw [bI_0]
            refine ⟨fun q3 => skip (by rw [eo, q3]; rfl), fun q3 => ?_⟩
            have e : opn a d be wo b i = true := by rw [eo, q, q2]; simpa using q3
            rw [nI_1, enc_step hi6 e]
            exact ih
theorem oI_dg (x : Option Nat) : oI x + 1 = nI (dg x) := by
  cases x with
  | none => decide
  | some r => exact nI_1 r
theorem m1_sub (x : Int32) : x + (-1) = x - 1 := (Int32.sub_eq_add_neg x 1).symm
theorem c_Sv_numberOf {l : Launch} {h : Nat} {mi : TMi} {ml : TMl} {B : Nat} {wo : Nat → Option Nat} {Q : Int32 → TMi → TMl → Nat → Prop} (hB : mi 18 0 = nI B) (hB6 : B ≤ 6) (hw : ∀ b, b < B → mi 64 b = oI (wo b)) (hd : ∀ b, b < B → dg (wo b) ≤ 4) (hq : Q (nI (cn wo B)) mi ml 17) : CI l (h + 1) m_Sv_numberOf [.ref 60] mi ml 17 Q := by
  refine t_Sv_numberOf mi ml ?_
  rw [hB]
  have hlt := cn_lt hd
  have h5 := pow5 hB6
  refine loop (P := fun i => ∀ v, v * 5 ^ (B - i) + cn wo (B - i) = cn wo B → Ev l (h + 1) m_Sv_numberOf 15 ([.ref 60, .int (nI v), .int (nI (B - i) - 1)], [], st mi ml 17) (qI Q)) B (fun v hv => ?_) (fun i hi ih v hv => ?_) 0 (by rw [Nat.zero_mul, Nat.zero_add, Nat.sub_zero])
  · rw [Nat.sub_self, Nat.pow_zero] at hv
    simp only [cn] at hv
    have e : v = cn wo B := by omega
    rw [e, Nat.sub_self]
    exact t_Sv_numberOf_15 mi ml _ _ ⟨fun _ => hq, fun c => absurd (by decide) c⟩
  · obtain ⟨n, hn⟩ : ∃ n, B - i = n + 1 := ⟨B - i - 1, by omega⟩
    rw [hn] at hv ⊢
    rw [sub1 (by omega) (by omega), Nat.add_sub_cancel]
    refine t_Sv_numberOf_15 mi ml _ _ ⟨fun c => absurd c (fun q => absurd ((nI_ltI (a := n) (b := 0) (by omega) (by decide)).mp q) (by omega)), fun _ => ⟨in_nI (by omega) (by decide), ?_⟩⟩
    rw [cl_nI (by omega), hw n (by omega), Int32.add_assoc, oI_dg, show nI v * 5 = nI (v * 5) from pk_mul _ _, nI_add, m1_sub]
    have := ih (v * 5 + dg (wo n)) (by
      rw [show B - (i + 1) = n by omega]
      simp only [cn, Nat.pow_succ] at hv
      rw [Nat.add_mul, Nat.mul_assoc, Nat.mul_comm 5 (5 ^ n)]
      omega)
    rw [show B - (i + 1) = n by omega] at this
    exact this
/-- what the survey has gathered of the choices found so far -/
def wN (w : Int32) (ls : List Nat) : Int32 := if w.toInt < 0 then -1 else match ls[w.toInt.toNat]? with | some c => nI c | none => -1
def SurS (mi : TMi) (a : Ln) (d : Dt) (w : Int32) (ls : List Nat) : Prop := mi 60 9 = nI ls.length ∧ mi 60 10 = frN (fr (grA a d) ls) ∧ mi 60 11 = nI (frR (fr (grA a d) ls) 10) ∧ (∀ b, b < nB a → mi 66 b = nI (enc (canB ls b) 4)) ∧ (∀ r, r < nR a → mi 67 r = nI (mxl (flW a d r) ls)) ∧ mi 60 7 = w ∧ mi 60 8 = wN w ls
theorem wN_s {w : Int32} {ls : List Nat} {c : Nat} (hl : ls.length < 2 ^ 31) : wN w (ls ++ [c]) = if nI ls.length = w then nI c else wN w ls := by
  unfold wN
  by_cases q : w.toInt < 0
  · rw [if_pos q, if_pos q, if_neg]
    intro e
    rw [← e, nI_toInt hl] at q
    omega
  · rw [if_neg q, if_neg q]
    have ex := nI_toNat (x := w) (by omega)
    have hlt := Int32.toInt_lt w
    by_cases e : nI ls.length = w
    · have : w.toInt.toNat = ls.length := by rw [← e, nI_toInt hl]; rfl
      rw [if_pos e, this, List.getElem?_append_right (Nat.le_refl _), Nat.sub_self]
      rfl
    · rw [if_neg e]
      have hne : ¬ w.toInt.toNat = ls.length := fun k => e (by rw [← k]; exact ex.symm)
      by_cases k : w.toInt.toNat < ls.length
      · rw [List.getElem?_append_left k]
      · rw [List.getElem?_eq_none (by rw [List.length_append, List.length_singleton]; omega), List.getElem?_eq_none (by omega)]
theorem ifmax {x y : Nat} (hx : x < 2 ^ 31) (hy : y < 2 ^ 31) : (if nI x < nI y then nI y else nI x) = nI (max x y) := by
  by_cases q : x < y
  · rw [if_pos ((nI_ltI hx hy).mpr q), Nat.max_eq_right (by omega)]
  · rw [if_neg (fun k => q ((nI_ltI hx hy).mp k)), Nat.max_eq_left (by omega)]
theorem c_Sv_weigh {l : Launch} {h : Nat} {mi : TMi} {ml : TMl} {a : Ln} {d : Dt} {w : Int32} {c : Nat} {ls : List Nat} {Q : TMi → TMl → Nat → Prop} (hA : CA mi a d) (hw : isW (mi 64) (nB a) (nR a) (chW c)) (hc : c < 5 ^ nB a) (hs : SurS mi a d w ls) (hls : ls.length < 20000)
    (hq : ∀ mi', Fr [60, 66, 67] mi mi' → SurS mi' a d w (ls ++ [c]) → Q mi' ml 17) : CV l (h + 4) m_Sv_weigh [.ref 60] mi ml 17 Q := by
  have ha := hA.1
  have hB6 := ha.1
  have hR4 := ha.2.1
  have hg9 := grA_le (d := d) ha c
  refine t_Sv_weigh mi ml ?_
  refine loop (P := fun i => ∀ m, Fr [66] mi m → (∀ b, b < i → m 66 b = nI (enc (canB (ls ++ [c]) b) 4)) → (∀ b, i ≤ b → m 66 b = mi 66 b) → Ev l (h + 4) m_Sv_weigh 4 ([.ref 60, .int (nI (mxn (rkW (lkD a d) (nR a) (chW c)) i)), .int (nI i), .retAddr 0], [], st m ml 17) (qV Q)) (nB a) (fun m F h1 h2 => ?_) (fun i hi ih m F h1 h2 => ?_) mi (Fr.refl _ _) (fun b hb => absurd hb (Nat.not_lt_zero _)) (fun _ _ => rfl)
  · have hAm : CA m a d := hA.of F (by simp)
    refine t_Sv_weigh_4 m ml _ _ ⟨fun _ => ?_, fun c => absurd (le_at hAm.2.2.1.1 (by omega)) c⟩
    refine loop (P := fun j => ∀ m', Fr [66, 67] mi m' → m' 66 = m 66 → (∀ r, r < j → m' 67 r = nI (mxl (flW a d r) (ls ++ [c]))) → (∀ r, j ≤ r → m' 67 r = mi 67 r) → Ev l (h + 4) m_Sv_weigh 78 ([.ref 60, .int (nI (grA a d c)), .int (nI j), .retAddr 0], [], st m' ml 17) (qV Q)) (nR a) (fun m' F' e66 k1 k2 => ?_) (fun j hj ihj m' F' e66 k1 k2 => ?_) m (F.weak (by simp)) rfl (fun b hb => absurd hb (Nat.not_lt_zero _)) (fun _ _ => by rw [F 67 (by decide)])
    · have hA' : CA m' a d := hA.of F' (by simp)
      obtain ⟨s1, s2, s3, s4, s5, s6, s7⟩ := hs
      have e60 : m' 60 = mi 60 := F' 60 (by decide)
      have e64 : m' 64 = mi 64 := F' 64 (by decide)
      have hcn : cn (chW c) (nB a) = c := by rw [cn_self, Nat.mod_eq_of_lt hc]
      have hnum : ∀ {h : Nat} {m2 : TMi} {Q : Int32 → TMi → TMl → Nat → Prop}, m2 18 = m' 18 → m2 64 = m' 64 → Q (nI c) m2 ml 17 → CI l (h + 1) m_Sv_numberOf [.ref 60] m2 ml 17 Q := fun {h m2 Q} e1 e2 k => by
        refine c_Sv_numberOf (B := nB a) (wo := chW c) (by rw [e1]; exact hA'.2.2.1.1) hB6 (fun b hb => by rw [e2, e64]; exact (hw b hb).1) (fun b hb => ?_) (by rw [hcn]; exact k)
        cases e : chW c b with
        | none => simp [dg]
        | some r => have := chW_lt e; simp only [dg]; omega
      have hfle : frR (fr (grA a d) ls) 10 ≤ 10 := frR_le (grA_le ha) ls none _ (by decide) (Nat.le_refl _)
      have efr : fr (grA a d) (ls ++ [c]) = if grA a d c < frR (fr (grA a d) ls) 10 then some (c, grA a d c) else fr (grA a d) ls := by rw [fr_s, frs_lt (o := 10) (by omega)]
      have ewN := wN_s (w := w) (ls := ls) (c := c) (by omega)
      have fin : ∀ m2 : TMi, Fr [60] m' m2 → m2 60 9 = nI (ls.length + 1) → m2 60 10 = frN (fr (grA a d) (ls ++ [c])) → m2 60 11 = nI (frR (fr (grA a d) (ls ++ [c])) 10) → m2 60 7 = w → m2 60 8 = wN w (ls ++ [c]) → Q m2 ml 17 := fun m2 F2 g1 g2 g3 g4 g5 => by
        refine hq m2 ((F'.weak (by simp)).step (F2.weak (by simp))) ⟨by rw [g1, List.length_append]; rfl, g2, g3, fun b hb => ?_, fun r hr => ?_, g4, g5⟩
        · rw [F2 66 (by decide), e66]; exact h1 b hb
        · rw [F2 67 (by decide)]; exact k1 r hr
      refine t_Sv_weigh_78 m' ml _ _ ⟨fun _ => ?_, fun c => absurd (le_at hA'.2.2.1.2.1 (by omega)) c⟩
      rw [e60, s3, nI_leI (by omega) (by omega), s1, s6]
      have t0 : ∀ (m2 : TMi) k x j, k ≠ j → (up m2 60 k x) 60 j = m2 60 j := fun m2 k x j hkj => up_nk _ _ _ (Ne.symm hkj)
      refine ⟨fun q => ⟨fun q2 => fin _ (Fr_up _ _ _ _) ?_ ?_ ?_ ?_ ?_, fun q2 => hnum rfl rfl ⟨rfl, fin _ ?_ ?_ ?_ ?_ ?_ ?_⟩⟩, fun q => hnum (up_ne _ _ _ (by decide)) (up_ne _ _ _ (by decide)) ⟨rfl, fun q2 => fin _ ?_ ?_ ?_ ?_ ?_ ?_, fun q2 => hnum ?_ ?_ ⟨rfl, fin _ ?_ ?_ ?_ ?_ ?_ ?_⟩⟩⟩
      · rw [up_at, nI_1]
      · rw [t0 _ _ _ _ (by decide), e60, s2, efr, if_neg (by omega)]
      · rw [t0 _ _ _ _ (by decide), e60, s3, efr, if_neg (by omega)]
      · rw [t0 _ _ _ _ (by decide), e60, s6]
      · rw [t0 _ _ _ _ (by decide), e60, s7, ewN, if_neg q2]
      · exact ((Fr_up _ _ _ _).weak (by simp)).step ((Fr_up _ _ _ _).weak (by simp))
      · rw [up_at, t0 _ _ _ _ (by decide), e60, s1, nI_1]
      · rw [t0 _ _ _ _ (by decide), t0 _ _ _ _ (by decide), e60, s2, efr, if_neg (by omega)]
      · rw [t0 _ _ _ _ (by decide), t0 _ _ _ _ (by decide), e60, s3, efr, if_neg (by omega)]
      · rw [t0 _ _ _ _ (by decide), t0 _ _ _ _ (by decide), e60, s6]
      · rw [t0 _ _ _ _ (by decide), up_at, ewN, if_pos q2]
      · exact (((Fr_up _ _ _ _).weak (by simp)).step ((Fr_up _ _ _ _).weak (by simp))).step ((Fr_up _ _ _ _).weak (by simp))
      · rw [up_at, t0 _ _ _ _ (by decide), t0 _ _ _ _ (by decide), e60, s1, nI_1]
      · rw [t0 _ _ _ _ (by decide), up_at, efr, if_pos (by omega)]; rfl
      · rw [t0 _ _ _ _ (by decide), t0 _ _ _ _ (by decide), up_at, efr, if_pos (by omega)]; rfl
      · rw [t0 _ _ _ _ (by decide), t0 _ _ _ _ (by decide), t0 _ _ _ _ (by decide), e60, s6]
      · rw [t0 _ _ _ _ (by decide), t0 _ _ _ _ (by decide), t0 _ _ _ _ (by decide), e60, s7, ewN, if_neg]
        rw [t0 _ _ _ _ (by decide), t0 _ _ _ _ (by decide), t0 _ _ _ _ (by decide), t0 _ _ _ _ (by decide), e60, s1, s6] at q2
        exact q2
      · rw [up_ne _ _ _ (by decide), up_ne _ _ _ (by decide)]
      · rw [up_ne _ _ _ (by decide), up_ne _ _ _ (by decide)]
      · exact ((((Fr_up _ _ _ _).weak (by simp)).step ((Fr_up _ _ _ _).weak (by simp))).step ((Fr_up _ _ _ _).weak (by simp))).step ((Fr_up _ _ _ _).weak (by simp))
      · rw [up_at, t0 _ _ _ _ (by decide), t0 _ _ _ _ (by decide), t0 _ _ _ _ (by decide), e60, s1, nI_1]
      · rw [t0 _ _ _ _ (by decide), t0 _ _ _ _ (by decide), up_at, efr, if_pos (by omega)]; rfl
      · rw [t0 _ _ _ _ (by decide), t0 _ _ _ _ (by decide), t0 _ _ _ _ (by decide), up_at, efr, if_pos (by omega)]; rfl
      · rw [t0 _ _ _ _ (by decide), t0 _ _ _ _ (by decide), t0 _ _ _ _ (by decide), t0 _ _ _ _ (by decide), e60, s6]
      · rw [t0 _ _ _ _ (by decide), up_at, ewN, if_pos]
        rw [t0 _ _ _ _ (by decide), t0 _ _ _ _ (by decide), t0 _ _ _ _ (by decide), t0 _ _ _ _ (by decide), e60, s1, s6] at q2
        exact q2
    · have hA' : CA m' a d := hA.of F' (by simp)
      have hin : vp_in (nI j) 4 := in_nI (by omega) (by decide)
      have h54 := flW_le ha hA.2.1 j
      have hm54 : mxl (flW a d j) ls ≤ 54 := mxl_le h54 ls 0 (by omega)
      have h54c := h54 c
      have hw' : isW (m' 64) (nB a) (nR a) (chW c) := by rw [F' 64 (by decide)]; exact hw
      refine t_Sv_weigh_78 m' ml _ _ ⟨fun c => absurd c (ge_no hA'.2.2.1.2.1 (by omega) hj), fun _ => ⟨hin, c_Sc_becksIn_17 (lw := 6) rfl (by decide) hA'.2.2.1.1 hB6 ⟨rfl, ?_⟩⟩⟩
      rw [isW_enc hw' hR4 (show j < 4 by omega)]
      refine c_Sc_flowOfSet_17 hA'.2.2.1.1 hB6 (enc_64 _ hB6) hA'.fl ⟨rfl, hin, ?_⟩
      rw [smn_enc, cl_nI (show j < 2 ^ 31 by omega), nI_1, k2 j (Nat.le_refl _), hs.2.2.2.2.1 j hj]
      show Ev l (h + 4) m_Sv_weigh 78 ([.ref 60, .int (nI (grA a d c)), .int (nI (j + 1)), .retAddr 0], [], st (up m' 67 j (if nI (mxl (flW a d j) ls) < nI (flW a d j c) then nI (flW a d j c) else nI (mxl (flW a d j) ls))) ml 17) (qV Q)
      rw [ifmax (by omega) (by omega), ← mxl_s]
      refine ihj _ (F'.step ((Fr_up _ _ _ _).weak (by simp))) (by rw [up_ne _ _ _ (by decide)]; exact e66) (fun r hr => ?_) (fun r hr => ?_)
      · by_cases q : r = j
        · subst q; rw [up_at]
        · rw [up_nk _ _ _ q]; exact k1 r (by omega)
      · rw [up_nk _ _ _ (by omega)]; exact k2 r (by omega)
  · have hAm : CA m a d := hA.of F (by simp)
    have hin : vp_in (nI i) 6 := in_nI (by omega) (by decide)
    have hm9 : mxn (rkW (lkD a d) (nR a) (chW c)) i ≤ 9 := mxn_le (fun b _ => rkW_le hR4)
    have hr9 := rkW_le (L := lkD a d) (wo := chW c) (b := i) hR4
    have e64 : m 64 i = oI (chW c i) := by rw [F 64 (by decide)]; exact (hw i hi).1
    have e66 : m 66 i = nI (enc (canB ls i) 4) := by rw [h2 i (Nat.le_refl _)]; exact hs.2.2.2.1 i hi
    have next : Ev l (h + 4) m_Sv_weigh 4 ([.ref 60, .int (nI (max (mxn (rkW (lkD a d) (nR a) (chW c)) i) (rkW (lkD a d) (nR a) (chW c) i))), .int (nI (i + 1)), .retAddr 0], [], st (up m 66 i (nI (enc (canB (ls ++ [c]) i) 4))) ml 17) (qV Q) := by
      refine ih _ (F.step (Fr_up _ _ _ _)) (fun b hb => ?_) (fun b hb => ?_)
      · by_cases q : b = i
        · subst q; rw [up_at]
        · rw [up_nk _ _ _ q]; exact h1 b (by omega)
      · rw [up_nk _ _ _ (by omega)]; exact h2 b (by omega)
    refine t_Sv_weigh_4 m ml _ _ ⟨fun c => absurd c (ge_no hAm.2.2.1.1 (by omega) hi), fun _ => ⟨hin, ?_⟩⟩
    rw [cl_nI (show i < 2 ^ 31 by omega), e64, nI_1]
    cases e : chW c i with
    | none =>
      refine ⟨fun q => absurd rfl q, fun _ => ⟨hin, fun q => absurd rfl q, fun _ => ⟨hin, ?_⟩⟩⟩
      rw [e66, Int32.or_zero, ← can_none e]
      have er : rkW (lkD a d) (nR a) (chW c) i = 9 := by simp [rkW, e, rkX]
      rw [er] at next
      rw [show (9 : Int32) = nI 9 from rfl, ifmax (by omega) (by decide)]
      exact next
    | some r =>
      have hr := (hw i hi).2 r e
      rw [show oI (some r) = nI r from rfl]
      refine ⟨fun _ => c_Sc_rankOf_17 hB6 hAm.2.2.1.2.1 hR4 hAm.2.2.2.2 hi hr ⟨rfl, hin, fun _ => ⟨hin, ?_⟩, fun q => absurd q (neg1_ne (by omega))⟩, fun q => absurd q (neg1_ne (by omega))⟩
      rw [e66, can_some (by omega) e]
      have er : rkW (lkD a d) (nR a) (chW c) i = rkO (lkD a d) (nR a) i r := by simp [rkW, e, rkX]
      rw [er] at next hr9
      rw [ifmax (by omega) (by omega)]
      exact next
